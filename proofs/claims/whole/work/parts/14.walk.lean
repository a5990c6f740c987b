/-! walks: X3_refusal, X3_rowIsAsked, X4_asks, X4_becomes, X4_clear, X4_countOf, X4_depthOf, X4_drawn, X4_entries, X4_goesBack, X4_here, X4_holds, X4_in, X4_inodes, X4_isDirectory, X4_isEntryTo -/
def eX3_refusal_0 : List xI := [(.iload_n 1, 1, 0, 0, 0), (.ineg, 1, 0, 0, 0), (.istore_n 2, 1, 0, 0, 0), (.iload_n 2, 1, 0, 0, 0), (.iconst 1, 1, 0, 0, (1))]
theorem kX3_refusal_0 : xcode (xmb mX3_refusal) (xmo mX3_refusal) 0 eX3_refusal_0 = true := by decide +kernel
def eX3_refusal_24 : List xI := [(.iload_n 1, 1, 0, 0, 0)]
theorem kX3_refusal_24 : xcode (xmb mX3_refusal) (xmo mX3_refusal) 24 eX3_refusal_24 = true := by decide +kernel
def eX3_refusal_8 : List xI := [(.iload_n 2, 1, 0, 0, 0), (.bipush 6, 2, 0, 0, (6))]
theorem kX3_refusal_8 : xcode (xmb mX3_refusal) (xmo mX3_refusal) 8 eX3_refusal_8 = true := by decide +kernel
def eX3_refusal_14 : List xI := [(.aload_n 0, 1, 0, 0, 0), (.getfield 54, 3, 3, 10, 0), (.iload_n 2, 1, 0, 0, 0), (.dup2, 1, 0, 0, 0), (.iaload, 1, 0, 0, 0), (.iconst 1, 1, 0, 0, (1)), (.iadd, 1, 0, 0, 0), (.iastore, 1, 0, 0, 0)]
theorem kX3_refusal_14 : xcode (xmb mX3_refusal) (xmo mX3_refusal) 14 eX3_refusal_14 = true := by decide +kernel
def wX3_refusal_24 (p1 : Int32) (Q : Int32 → xM → Prop) (M : xM) : Prop :=
    Q p1 M
set_option maxHeartbeats 4000000 in
set_option maxRecDepth 100000 in
theorem tX3_refusal_24 {l : Launch} {E : xE} {p1 : Int32} {Q : Int32 → xM → Prop} (M : xM) (h : wX3_refusal_24 p1 Q M ) : Gx l E mX3_refusal (xRi Q) 24 M [none, some (.int p1), none] [] := by
  unfold wX3_refusal_24 at h
  refine Gx_run (es := eX3_refusal_24) (P := []) (M' := M) (L' := [none, some (.int p1), none]) (st' := [.int p1]) (pc' := 25) kX3_refusal_24 rfl trivial rfl ?_
  exact Gx_iret (by decide +kernel) rfl rfl ⟨_, rfl, h⟩
def wX3_refusal (M : xM) (p1 : Int32) (Q : Int32 → xM → Prop) : Prop :=
    ((((-p1) < (1 : Int32)) → (wX3_refusal_24 p1 Q M)) ∧ ((¬ (-p1) < (1 : Int32)) → (((((6 : Int32) < (-p1)) → (wX3_refusal_24 p1 Q M)) ∧ ((¬ (6 : Int32) < (-p1)) → ((vp_in (-p1) 7) ∧ wX3_refusal_24 p1 Q (xup M 49 (-p1).toNatClampNeg ((M 49 (-p1).toNatClampNeg) + (1 : Int32)))))))))
set_option maxHeartbeats 4000000 in
set_option maxRecDepth 100000 in
theorem tX3_refusal {l : Launch} {E : xE} {M : xM} {p1 : Int32} {Q : Int32 → xM → Prop} (h : wX3_refusal M p1 Q) : Ct l E mX3_refusal [.ref 0, .int p1] M (xRi Q) := by
  refine Ct_of (by decide +kernel) rfl (Nat.le_of_ble_eq_true rfl) ?_
  unfold wX3_refusal at h
  show Gx l E mX3_refusal (xRi Q) 0 M [some (.ref 0), some (.int p1), none] []
  refine Gx_run (es := eX3_refusal_0) (P := []) (M' := M) (L' := [some (.ref 0), some (.int p1), some (.int (-p1))]) (st' := [.int (1 : Int32), .int (-p1)]) (pc' := 5) kX3_refusal_0 rfl trivial rfl ?_
  refine Gx_icmp_lt (off := 19) (tgt := 24) (by decide +kernel) (by decide) (fun z => ?_) (fun z => ?_)
  · have h := h.1 z
    refine Gx_mask [false, true, false] (L' := [none, some (.int p1), none]) rfl ?_
    exact tX3_refusal_24  M h
  · have h := h.2 z
    refine Gx_run (es := eX3_refusal_8) (P := []) (M' := M) (L' := [some (.ref 0), some (.int p1), some (.int (-p1))]) (st' := [.int (6 : Int32), .int (-p1)]) (pc' := 11) kX3_refusal_8 rfl trivial rfl ?_
    refine Gx_icmp_gt (off := 13) (tgt := 24) (by decide +kernel) (by decide) (fun z => ?_) (fun z => ?_)
    · have h := h.1 z
      refine Gx_mask [false, true, false] (L' := [none, some (.int p1), none]) rfl ?_
      exact tX3_refusal_24  M h
    · have h := h.2 z
      obtain ⟨g14_0, h⟩ := h
      refine Gx_run (es := eX3_refusal_14) (P := [xkd 0 = 3, xkd 49 = 5, vp_in (-p1) (xln 49), xkd 49 = 5, vp_in (-p1) (xln 49)]) (M' := (xup M 49 (-p1).toNatClampNeg ((M 49 (-p1).toNatClampNeg) + (1 : Int32)))) (L' := [some (.ref 0), some (.int p1), some (.int (-p1))]) (st' := []) (pc' := 24) kX3_refusal_14 rfl ⟨rfl, rfl, g14_0, rfl, g14_0, trivial⟩ rfl ?_
      refine Gx_mask [false, true, false] (L' := [none, some (.int p1), none]) rfl ?_
      exact tX3_refusal_24  (xup M 49 (-p1).toNatClampNeg ((M 49 (-p1).toNatClampNeg) + (1 : Int32))) h
def eX3_rowIsAsked_0 : List xI := [(.aload_n 0, 1, 0, 0, 0), (.getfield 51, 3, 3, 9, 0), (.aload_n 0, 1, 0, 0, 0), (.getfield 33, 3, 3, 5, 0), (.getfield 144, 3, 0, 4, 0)]
theorem kX3_rowIsAsked_0 : xcode (xmb mX3_rowIsAsked) (xmo mX3_rowIsAsked) 0 eX3_rowIsAsked_0 = true := by decide +kernel
def eX3_rowIsAsked_16 : List xI := [(.iconst 0, 1, 0, 0, (0)), (.istore_n 1, 1, 0, 0, 0)]
theorem kX3_rowIsAsked_16 : xcode (xmb mX3_rowIsAsked) (xmo mX3_rowIsAsked) 16 eX3_rowIsAsked_16 = true := by decide +kernel
def eX3_rowIsAsked_18 : List xI := [(.iload_n 1, 1, 0, 0, 0), (.aload_n 0, 1, 0, 0, 0), (.getfield 51, 3, 3, 9, 0)]
theorem kX3_rowIsAsked_18 : xcode (xmb mX3_rowIsAsked) (xmo mX3_rowIsAsked) 18 eX3_rowIsAsked_18 = true := by decide +kernel
def eX3_rowIsAsked_52 : List xI := [(.iconst 1, 1, 0, 0, (1))]
theorem kX3_rowIsAsked_52 : xcode (xmb mX3_rowIsAsked) (xmo mX3_rowIsAsked) 52 eX3_rowIsAsked_52 = true := by decide +kernel
def eX3_rowIsAsked_26 : List xI := [(.aload_n 0, 1, 0, 0, 0), (.getfield 47, 3, 3, 8, 0), (.iload_n 1, 1, 0, 0, 0), (.iaload, 1, 0, 0, 0), (.aload_n 0, 1, 0, 0, 0), (.getfield 33, 3, 3, 5, 0), (.getfield 150, 3, 0, 1, 0), (.iload_n 1, 1, 0, 0, 0), (.iaload, 1, 0, 0, 0)]
theorem kX3_rowIsAsked_26 : xcode (xmb mX3_rowIsAsked) (xmo mX3_rowIsAsked) 26 eX3_rowIsAsked_26 = true := by decide +kernel
def eX3_rowIsAsked_46 : List xI := [(.iinc 1 1, 3, 0, 0, (1))]
theorem kX3_rowIsAsked_46 : xcode (xmb mX3_rowIsAsked) (xmo mX3_rowIsAsked) 46 eX3_rowIsAsked_46 = true := by decide +kernel
def eX3_rowIsAsked_44 : List xI := [(.iconst 0, 1, 0, 0, (0))]
theorem kX3_rowIsAsked_44 : xcode (xmb mX3_rowIsAsked) (xmo mX3_rowIsAsked) 44 eX3_rowIsAsked_44 = true := by decide +kernel
def eX3_rowIsAsked_14 : List xI := [(.iconst 0, 1, 0, 0, (0))]
theorem kX3_rowIsAsked_14 : xcode (xmb mX3_rowIsAsked) (xmo mX3_rowIsAsked) 14 eX3_rowIsAsked_14 = true := by decide +kernel
def lX3_rowIsAsked_18 (Q : Int32 → xM → Prop) : Nat → xM → Int32 → Prop
  | 0 => fun _ _ => False
  | n + 1 => let k18 := lX3_rowIsAsked_18  Q n; fun M a1 =>
    ((((M 0 9) ≤ a1) → (Q (1 : Int32) M)) ∧ ((¬ (M 0 9) ≤ a1) → ((vp_in a1 32) ∧ (vp_in a1 180) ∧ ((((M 48 a1.toNatClampNeg) = (M 30 a1.toNatClampNeg)) → (k18 M (a1 + (1 : Int32)))) ∧ ((¬ (M 48 a1.toNatClampNeg) = (M 30 a1.toNatClampNeg)) → (Q (0 : Int32) M))))))
set_option maxHeartbeats 4000000 in
set_option maxRecDepth 100000 in
theorem tX3_rowIsAsked_18 {l : Launch} {E : xE} {Q : Int32 → xM → Prop} (n : Nat) : ∀ (M : xM) (a1 : Int32), lX3_rowIsAsked_18  Q n M a1 → Gx l E mX3_rowIsAsked (xRi Q) 18 M [some (.ref 0), some (.int a1)] [] := by
  induction n with
  | zero => intro M a1 h; exact h.elim
  | succ n hk18 =>
      intro M a1 h
      unfold lX3_rowIsAsked_18 at h
      dsimp only at h
      refine Gx_run (es := eX3_rowIsAsked_18) (P := [xkd 0 = 3]) (M' := M) (L' := [some (.ref 0), some (.int a1)]) (st' := [.int (M 0 9), .int a1]) (pc' := 23) kX3_rowIsAsked_18 rfl ⟨rfl, trivial⟩ rfl ?_
      refine Gx_icmp_ge (off := 29) (tgt := 52) (by decide +kernel) (by decide) (fun z => ?_) (fun z => ?_)
      · have h := h.1 z
        refine Gx_run (es := eX3_rowIsAsked_52) (P := []) (M' := M) (L' := [some (.ref 0), some (.int a1)]) (st' := [.int (1 : Int32)]) (pc' := 53) kX3_rowIsAsked_52 rfl trivial rfl ?_
        exact Gx_iret (by decide +kernel) rfl (by decide) ⟨_, rfl, h⟩
      · have h := h.2 z
        obtain ⟨g26_0, g26_1, h⟩ := h
        refine Gx_run (es := eX3_rowIsAsked_26) (P := [xkd 0 = 3, xkd 48 = 5, vp_in a1 (xln 48), xkd 0 = 3, xkd 22 = 0, xkd 30 = 5, vp_in a1 (xln 30)]) (M' := M) (L' := [some (.ref 0), some (.int a1)]) (st' := [.int (M 30 a1.toNatClampNeg), .int (M 48 a1.toNatClampNeg)]) (pc' := 41) kX3_rowIsAsked_26 rfl ⟨rfl, rfl, g26_0, rfl, rfl, rfl, g26_1, trivial⟩ rfl ?_
        refine Gx_icmp_eq (off := 5) (tgt := 46) (by decide +kernel) (by decide) (fun z => ?_) (fun z => ?_)
        · have h := h.1 z
          refine Gx_run (es := eX3_rowIsAsked_46) (P := []) (M' := M) (L' := [some (.ref 0), some (.int (a1 + (1 : Int32)))]) (st' := []) (pc' := 49) kX3_rowIsAsked_46 rfl trivial rfl ?_
          refine Gx_goto (off := -31) (tgt := 18) (by decide +kernel) (by decide) ?_
          refine Gx_mask [true, true] (L' := [some (.ref 0), some (.int (a1 + (1 : Int32)))]) rfl ?_
          exact hk18 M (a1 + (1 : Int32)) h
        · have h := h.2 z
          refine Gx_run (es := eX3_rowIsAsked_44) (P := []) (M' := M) (L' := [some (.ref 0), some (.int a1)]) (st' := [.int (0 : Int32)]) (pc' := 45) kX3_rowIsAsked_44 rfl trivial rfl ?_
          exact Gx_iret (by decide +kernel) rfl (by decide) ⟨_, rfl, h⟩
def wX3_rowIsAsked (M : xM) (Q : Int32 → xM → Prop) : Prop :=
    ((((M 0 9) ≤ (M 22 4)) → ((∃ n : Nat, lX3_rowIsAsked_18  Q n M (0 : Int32)))) ∧ ((¬ (M 0 9) ≤ (M 22 4)) → (Q (0 : Int32) M)))
set_option maxHeartbeats 4000000 in
set_option maxRecDepth 100000 in
theorem tX3_rowIsAsked {l : Launch} {E : xE} {M : xM} {Q : Int32 → xM → Prop} (h : wX3_rowIsAsked M  Q) : Ct l E mX3_rowIsAsked [.ref 0] M (xRi Q) := by
  refine Ct_of (by decide +kernel) rfl (Nat.le_of_ble_eq_true rfl) ?_
  unfold wX3_rowIsAsked at h
  show Gx l E mX3_rowIsAsked (xRi Q) 0 M [some (.ref 0), none] []
  refine Gx_run (es := eX3_rowIsAsked_0) (P := [xkd 0 = 3, xkd 0 = 3, xkd 22 = 0]) (M' := M) (L' := [some (.ref 0), none]) (st' := [.int (M 22 4), .int (M 0 9)]) (pc' := 11) kX3_rowIsAsked_0 rfl ⟨rfl, rfl, rfl, trivial⟩ rfl ?_
  refine Gx_icmp_le (off := 5) (tgt := 16) (by decide +kernel) (by decide) (fun z => ?_) (fun z => ?_)
  · have h := h.1 z
    refine Gx_run (es := eX3_rowIsAsked_16) (P := []) (M' := M) (L' := [some (.ref 0), some (.int (0 : Int32))]) (st' := []) (pc' := 18) kX3_rowIsAsked_16 rfl trivial rfl ?_
    refine Gx_mask [true, true] (L' := [some (.ref 0), some (.int (0 : Int32))]) rfl ?_
    obtain ⟨n, h⟩ := h
    exact tX3_rowIsAsked_18  n M (0 : Int32) h
  · have h := h.2 z
    refine Gx_run (es := eX3_rowIsAsked_14) (P := []) (M' := M) (L' := [some (.ref 0), none]) (st' := [.int (0 : Int32)]) (pc' := 15) kX3_rowIsAsked_14 rfl trivial rfl ?_
    exact Gx_iret (by decide +kernel) rfl (by decide) ⟨_, rfl, h⟩
def eX4_asks_0 : List xI := [(.aload_n 0, 1, 0, 0, 0), (.getfield 25, 3, 4, 11, 0), (.aload_n 0, 1, 0, 0, 0), (.getfield 133, 3, 4, 14, 0), (.iload_n 1, 1, 0, 0, 0), (.iastore, 1, 0, 0, 0), (.aload_n 0, 1, 0, 0, 0), (.getfield 28, 3, 4, 12, 0), (.aload_n 0, 1, 0, 0, 0), (.getfield 133, 3, 4, 14, 0), (.iload_n 2, 1, 0, 0, 0), (.iastore, 1, 0, 0, 0), (.aload_n 0, 1, 0, 0, 0), (.getfield 31, 3, 4, 13, 0), (.aload_n 0, 1, 0, 0, 0), (.getfield 133, 3, 4, 14, 0), (.iload_n 3, 1, 0, 0, 0), (.iastore, 1, 0, 0, 0), (.aload_n 0, 1, 0, 0, 0), (.dup, 1, 0, 0, 0), (.getfield 133, 3, 4, 14, 0), (.iconst 1, 1, 0, 0, (1)), (.iadd, 1, 0, 0, 0), (.putfield 133, 3, 4, 14, 0)]
theorem kX4_asks_0 : xcode (xmb mX4_asks) (xmo mX4_asks) 0 eX4_asks_0 = true := by decide +kernel
def wX4_asks (M : xM) (p1 : Int32) (p2 : Int32) (p3 : Int32) (Q : xM → Prop) : Prop :=
    (vp_in (M 50 14) 400) ∧ (vp_in ((xup M 56 (M 50 14).toNatClampNeg p1) 50 14) 400) ∧ (vp_in ((xup (xup M 56 (M 50 14).toNatClampNeg p1) 57 ((xup M 56 (M 50 14).toNatClampNeg p1) 50 14).toNatClampNeg p2) 50 14) 400) ∧ Q (xup (xup (xup (xup M 56 (M 50 14).toNatClampNeg p1) 57 ((xup M 56 (M 50 14).toNatClampNeg p1) 50 14).toNatClampNeg p2) 58 ((xup (xup M 56 (M 50 14).toNatClampNeg p1) 57 ((xup M 56 (M 50 14).toNatClampNeg p1) 50 14).toNatClampNeg p2) 50 14).toNatClampNeg p3) 50 14 (((xup (xup (xup M 56 (M 50 14).toNatClampNeg p1) 57 ((xup M 56 (M 50 14).toNatClampNeg p1) 50 14).toNatClampNeg p2) 58 ((xup (xup M 56 (M 50 14).toNatClampNeg p1) 57 ((xup M 56 (M 50 14).toNatClampNeg p1) 50 14).toNatClampNeg p2) 50 14).toNatClampNeg p3) 50 14) + (1 : Int32)))
set_option maxHeartbeats 4000000 in
set_option maxRecDepth 100000 in
theorem tX4_asks {l : Launch} {E : xE} {M : xM} {p1 : Int32} {p2 : Int32} {p3 : Int32} {Q : xM → Prop} (h : wX4_asks M p1 p2 p3 Q) : Ct l E mX4_asks [.ref 50, .int p1, .int p2, .int p3] M (xRv Q) := by
  refine Ct_of (by decide +kernel) rfl (Nat.le_of_ble_eq_true rfl) ?_
  unfold wX4_asks at h
  show Gx l E mX4_asks (xRv Q) 0 M [some (.ref 50), some (.int p1), some (.int p2), some (.int p3)] []
  obtain ⟨g0_0, g0_1, g0_2, h⟩ := h
  refine Gx_run (es := eX4_asks_0) (P := [xkd 50 = 4, xkd 50 = 4, xkd 56 = 5, vp_in (M 50 14) (xln 56), xkd 50 = 4, xkd 50 = 4, xkd 57 = 5, vp_in ((xup M 56 (M 50 14).toNatClampNeg p1) 50 14) (xln 57), xkd 50 = 4, xkd 50 = 4, xkd 58 = 5, vp_in ((xup (xup M 56 (M 50 14).toNatClampNeg p1) 57 ((xup M 56 (M 50 14).toNatClampNeg p1) 50 14).toNatClampNeg p2) 50 14) (xln 58), xkd 50 = 4, xkd 50 = 4]) (M' := (xup (xup (xup (xup M 56 (M 50 14).toNatClampNeg p1) 57 ((xup M 56 (M 50 14).toNatClampNeg p1) 50 14).toNatClampNeg p2) 58 ((xup (xup M 56 (M 50 14).toNatClampNeg p1) 57 ((xup M 56 (M 50 14).toNatClampNeg p1) 50 14).toNatClampNeg p2) 50 14).toNatClampNeg p3) 50 14 (((xup (xup (xup M 56 (M 50 14).toNatClampNeg p1) 57 ((xup M 56 (M 50 14).toNatClampNeg p1) 50 14).toNatClampNeg p2) 58 ((xup (xup M 56 (M 50 14).toNatClampNeg p1) 57 ((xup M 56 (M 50 14).toNatClampNeg p1) 50 14).toNatClampNeg p2) 50 14).toNatClampNeg p3) 50 14) + (1 : Int32)))) (L' := [some (.ref 50), some (.int p1), some (.int p2), some (.int p3)]) (st' := []) (pc' := 40) kX4_asks_0 rfl ⟨rfl, rfl, rfl, g0_0, rfl, rfl, rfl, g0_1, rfl, rfl, rfl, g0_2, rfl, rfl, trivial⟩ rfl ?_
  exact Gx_vret (by decide +kernel) rfl ⟨rfl, h⟩
def eX4_becomes_0 : List xI := [(.aload_n 0, 1, 0, 0, 0), (.getfield 7, 3, 4, 1, 0), (.iload_n 1, 1, 0, 0, 0), (.iaload, 1, 0, 0, 0), (.istore_n 3, 1, 0, 0, 0), (.aload_n 0, 1, 0, 0, 0), (.getfield 7, 3, 4, 1, 0), (.iload_n 1, 1, 0, 0, 0), (.iload_n 2, 1, 0, 0, 0), (.iastore, 1, 0, 0, 0), (.iload_n 3, 1, 0, 0, 0)]
theorem kX4_becomes_0 : xcode (xmb mX4_becomes) (xmo mX4_becomes) 0 eX4_becomes_0 = true := by decide +kernel
def wX4_becomes (M : xM) (p1 : Int32) (p2 : Int32) (Q : Int32 → xM → Prop) : Prop :=
    (vp_in p1 147) ∧ Q (M 51 p1.toNatClampNeg) (xup M 51 p1.toNatClampNeg p2)
set_option maxHeartbeats 4000000 in
set_option maxRecDepth 100000 in
theorem tX4_becomes {l : Launch} {E : xE} {M : xM} {p1 : Int32} {p2 : Int32} {Q : Int32 → xM → Prop} (h : wX4_becomes M p1 p2 Q) : Ct l E mX4_becomes [.ref 50, .int p1, .int p2] M (xRi Q) := by
  refine Ct_of (by decide +kernel) rfl (Nat.le_of_ble_eq_true rfl) ?_
  unfold wX4_becomes at h
  show Gx l E mX4_becomes (xRi Q) 0 M [some (.ref 50), some (.int p1), some (.int p2), none] []
  obtain ⟨g0_0, h⟩ := h
  refine Gx_run (es := eX4_becomes_0) (P := [xkd 50 = 4, xkd 51 = 5, vp_in p1 (xln 51), xkd 50 = 4, xkd 51 = 5, vp_in p1 (xln 51)]) (M' := (xup M 51 p1.toNatClampNeg p2)) (L' := [some (.ref 50), some (.int p1), some (.int p2), some (.int (M 51 p1.toNatClampNeg))]) (st' := [.int (M 51 p1.toNatClampNeg)]) (pc' := 15) kX4_becomes_0 rfl ⟨rfl, rfl, g0_0, rfl, rfl, g0_0, trivial⟩ rfl ?_
  exact Gx_iret (by decide +kernel) rfl rfl ⟨_, rfl, h⟩
def eX4_clear_0 : List xI := [(.aload_n 0, 1, 0, 0, 0), (.getfield 237, 3, 4, 16, 0), (.istore_n 1, 1, 0, 0, 0), (.aload_n 0, 1, 0, 0, 0), (.iconst 0, 1, 0, 0, (0)), (.putfield 237, 3, 4, 16, 0), (.iload_n 1, 1, 0, 0, 0)]
theorem kX4_clear_0 : xcode (xmb mX4_clear) (xmo mX4_clear) 0 eX4_clear_0 = true := by decide +kernel
def wX4_clear (M : xM) (Q : Int32 → xM → Prop) : Prop :=
    Q (M 50 16) (xup M 50 16 (0 : Int32))
set_option maxHeartbeats 4000000 in
set_option maxRecDepth 100000 in
theorem tX4_clear {l : Launch} {E : xE} {M : xM} {Q : Int32 → xM → Prop} (h : wX4_clear M  Q) : Ct l E mX4_clear [.ref 50] M (xRi Q) := by
  refine Ct_of (by decide +kernel) rfl (Nat.le_of_ble_eq_true rfl) ?_
  unfold wX4_clear at h
  show Gx l E mX4_clear (xRi Q) 0 M [some (.ref 50), none] []
  refine Gx_run (es := eX4_clear_0) (P := [xkd 50 = 4, xkd 50 = 4]) (M' := (xup M 50 16 (0 : Int32))) (L' := [some (.ref 50), some (.int (M 50 16))]) (st' := [.int (M 50 16)]) (pc' := 11) kX4_clear_0 rfl ⟨rfl, rfl, trivial⟩ rfl ?_
  exact Gx_iret (by decide +kernel) rfl rfl ⟨_, rfl, h⟩
def eX4_countOf_0 : List xI := [(.iconst 0, 1, 0, 0, (0)), (.istore_n 1, 1, 0, 0, 0), (.iconst 0, 1, 0, 0, (0)), (.istore_n 2, 1, 0, 0, 0)]
theorem kX4_countOf_0 : xcode (xmb mX4_countOf) (xmo mX4_countOf) 0 eX4_countOf_0 = true := by decide +kernel
def eX4_countOf_4 : List xI := [(.iload_n 2, 1, 0, 0, 0), (.bipush 30, 2, 0, 0, (30))]
theorem kX4_countOf_4 : xcode (xmb mX4_countOf) (xmo mX4_countOf) 4 eX4_countOf_4 = true := by decide +kernel
def eX4_countOf_24 : List xI := [(.iload_n 1, 1, 0, 0, 0)]
theorem kX4_countOf_24 : xcode (xmb mX4_countOf) (xmo mX4_countOf) 24 eX4_countOf_24 = true := by decide +kernel
def eX4_countOf_10 : List xI := [(.iload_n 1, 1, 0, 0, 0), (.iload_n 0, 1, 0, 0, 0), (.iload_n 2, 1, 0, 0, 0), (.ishr, 1, 0, 0, 0), (.iconst 1, 1, 0, 0, (1)), (.iand, 1, 0, 0, 0), (.iadd, 1, 0, 0, 0), (.istore_n 1, 1, 0, 0, 0), (.iinc 2 1, 3, 0, 0, (1))]
theorem kX4_countOf_10 : xcode (xmb mX4_countOf) (xmo mX4_countOf) 10 eX4_countOf_10 = true := by decide +kernel
def lX4_countOf_4 (p1 : Int32) (Q : Int32 → xM → Prop) : Nat → xM → Int32 → Int32 → Prop
  | 0 => fun _ _ _ => False
  | n + 1 => let k4 := lX4_countOf_4 p1 Q n; fun M a1 a2 =>
    ((((30 : Int32) ≤ a2) → (Q a1 M)) ∧ ((¬ (30 : Int32) ≤ a2) → (k4 M (a1 + ((p1 >>> (a2 &&& 31)) &&& (1 : Int32))) (a2 + (1 : Int32)))))
set_option maxHeartbeats 4000000 in
set_option maxRecDepth 100000 in
theorem tX4_countOf_4 {l : Launch} {E : xE} {p1 : Int32} {Q : Int32 → xM → Prop} (n : Nat) : ∀ (M : xM) (a1 : Int32) (a2 : Int32), lX4_countOf_4 p1 Q n M a1 a2 → Gx l E mX4_countOf (xRi Q) 4 M [some (.int p1), some (.int a1), some (.int a2)] [] := by
  induction n with
  | zero => intro M a1 a2 h; exact h.elim
  | succ n hk4 =>
      intro M a1 a2 h
      unfold lX4_countOf_4 at h
      dsimp only at h
      refine Gx_run (es := eX4_countOf_4) (P := []) (M' := M) (L' := [some (.int p1), some (.int a1), some (.int a2)]) (st' := [.int (30 : Int32), .int a2]) (pc' := 7) kX4_countOf_4 rfl trivial rfl ?_
      refine Gx_icmp_ge (off := 17) (tgt := 24) (by decide +kernel) (by decide) (fun z => ?_) (fun z => ?_)
      · have h := h.1 z
        refine Gx_run (es := eX4_countOf_24) (P := []) (M' := M) (L' := [some (.int p1), some (.int a1), some (.int a2)]) (st' := [.int a1]) (pc' := 25) kX4_countOf_24 rfl trivial rfl ?_
        exact Gx_iret (by decide +kernel) rfl rfl ⟨_, rfl, h⟩
      · have h := h.2 z
        refine Gx_run (es := eX4_countOf_10) (P := []) (M' := M) (L' := [some (.int p1), some (.int (a1 + ((p1 >>> (a2 &&& 31)) &&& (1 : Int32)))), some (.int (a2 + (1 : Int32)))]) (st' := []) (pc' := 21) kX4_countOf_10 rfl trivial rfl ?_
        refine Gx_goto (off := -17) (tgt := 4) (by decide +kernel) (by decide) ?_
        refine Gx_mask [true, true, true] (L' := [some (.int p1), some (.int (a1 + ((p1 >>> (a2 &&& 31)) &&& (1 : Int32)))), some (.int (a2 + (1 : Int32)))]) rfl ?_
        exact hk4 M (a1 + ((p1 >>> (a2 &&& 31)) &&& (1 : Int32))) (a2 + (1 : Int32)) h
def wX4_countOf (M : xM) (p1 : Int32) (Q : Int32 → xM → Prop) : Prop :=
    (∃ n : Nat, lX4_countOf_4 p1 Q n M (0 : Int32) (0 : Int32))
set_option maxHeartbeats 4000000 in
set_option maxRecDepth 100000 in
theorem tX4_countOf {l : Launch} {E : xE} {M : xM} {p1 : Int32} {Q : Int32 → xM → Prop} (h : wX4_countOf M p1 Q) : Ct l E mX4_countOf [.int p1] M (xRi Q) := by
  refine Ct_of (by decide +kernel) rfl (Nat.le_of_ble_eq_true rfl) ?_
  unfold wX4_countOf at h
  show Gx l E mX4_countOf (xRi Q) 0 M [some (.int p1), none, none] []
  refine Gx_run (es := eX4_countOf_0) (P := []) (M' := M) (L' := [some (.int p1), some (.int (0 : Int32)), some (.int (0 : Int32))]) (st' := []) (pc' := 4) kX4_countOf_0 rfl trivial rfl ?_
  refine Gx_mask [true, true, true] (L' := [some (.int p1), some (.int (0 : Int32)), some (.int (0 : Int32))]) rfl ?_
  obtain ⟨n, h⟩ := h
  exact tX4_countOf_4  n M (0 : Int32) (0 : Int32) h
def eX4_depthOf_0 : List xI := [(.aload_n 0, 1, 0, 0, 0), (.getfield 7, 3, 4, 1, 0), (.iconst 0, 1, 0, 0, (0)), (.iload_n 1, 1, 0, 0, 0), (.iadd, 1, 0, 0, 0), (.iaload, 1, 0, 0, 0)]
theorem kX4_depthOf_0 : xcode (xmb mX4_depthOf) (xmo mX4_depthOf) 0 eX4_depthOf_0 = true := by decide +kernel
def eX4_depthOf_14 : List xI := [(.iconst 1, 1, 0, 0, (1)), (.istore_n 2, 1, 0, 0, 0), (.iconst 0, 1, 0, 0, (0)), (.istore_n 3, 1, 0, 0, 0)]
theorem kX4_depthOf_14 : xcode (xmb mX4_depthOf) (xmo mX4_depthOf) 14 eX4_depthOf_14 = true := by decide +kernel
def eX4_depthOf_18 : List xI := [(.iload_n 2, 1, 0, 0, 0), (.iload_n 1, 1, 0, 0, 0), (.ishr, 1, 0, 0, 0), (.iconst 1, 1, 0, 0, (1)), (.iand, 1, 0, 0, 0)]
theorem kX4_depthOf_18 : xcode (xmb mX4_depthOf) (xmo mX4_depthOf) 18 eX4_depthOf_18 = true := by decide +kernel
def eX4_depthOf_111 : List xI := [(.iload_n 3, 1, 0, 0, 0)]
theorem kX4_depthOf_111 : xcode (xmb mX4_depthOf) (xmo mX4_depthOf) 111 eX4_depthOf_111 = true := by decide +kernel
def eX4_depthOf_26 : List xI := [(.iload_n 3, 1, 0, 0, 0), (.bipush 10, 2, 0, 0, (10))]
theorem kX4_depthOf_26 : xcode (xmb mX4_depthOf) (xmo mX4_depthOf) 26 eX4_depthOf_26 = true := by decide +kernel
def eX4_depthOf_32 : List xI := [(.iload_n 2, 1, 0, 0, 0), (.istore 4, 2, 0, 0, 0), (.iconst 0, 1, 0, 0, (0)), (.istore 5, 2, 0, 0, 0)]
theorem kX4_depthOf_32 : xcode (xmb mX4_depthOf) (xmo mX4_depthOf) 32 eX4_depthOf_32 = true := by decide +kernel
def eX4_depthOf_38 : List xI := [(.iload 5, 2, 0, 0, 0), (.bipush 60, 2, 0, 0, (60))]
theorem kX4_depthOf_38 : xcode (xmb mX4_depthOf) (xmo mX4_depthOf) 38 eX4_depthOf_38 = true := by decide +kernel
def eX4_depthOf_102 : List xI := [(.iload 4, 2, 0, 0, 0), (.istore_n 2, 1, 0, 0, 0), (.iinc 3 1, 3, 0, 0, (1))]
theorem kX4_depthOf_102 : xcode (xmb mX4_depthOf) (xmo mX4_depthOf) 102 eX4_depthOf_102 = true := by decide +kernel
def eX4_depthOf_45 : List xI := [(.iload 4, 2, 0, 0, 0), (.iload_n 2, 1, 0, 0, 0), (.iload 5, 2, 0, 0, 0), (.bipush 6, 2, 0, 0, (6)), (.idiv, 1, 0, 0, 0), (.ishr, 1, 0, 0, 0), (.iconst 1, 1, 0, 0, (1)), (.iand, 1, 0, 0, 0), (.iconst 1, 1, 0, 0, (1))]
theorem kX4_depthOf_45 : xcode (xmb mX4_depthOf) (xmo mX4_depthOf) 45 eX4_depthOf_45 = true := by decide +kernel
def eX4_depthOf_92 : List xI := [(.iconst 0, 1, 0, 0, (0))]
theorem kX4_depthOf_92 : xcode (xmb mX4_depthOf) (xmo mX4_depthOf) 92 eX4_depthOf_92 = true := by decide +kernel
def eX4_depthOf_93 : List xI := [(.ior, 1, 0, 0, 0), (.istore 4, 2, 0, 0, 0), (.iinc 5 1, 3, 0, 0, (1))]
theorem kX4_depthOf_93 : xcode (xmb mX4_depthOf) (xmo mX4_depthOf) 93 eX4_depthOf_93 = true := by decide +kernel
def eX4_depthOf_60 : List xI := [(.aload_n 0, 1, 0, 0, 0), (.getfield 7, 3, 4, 1, 0), (.bipush 60, 2, 0, 0, (60)), (.iload 5, 2, 0, 0, 0), (.iadd, 1, 0, 0, 0), (.iaload, 1, 0, 0, 0), (.iconst (-1), 1, 0, 0, (-1))]
theorem kX4_depthOf_60 : xcode (xmb mX4_depthOf) (xmo mX4_depthOf) 60 eX4_depthOf_60 = true := by decide +kernel
def eX4_depthOf_74 : List xI := [(.iconst 1, 1, 0, 0, (1)), (.aload_n 0, 1, 0, 0, 0), (.getfield 7, 3, 4, 1, 0), (.bipush 60, 2, 0, 0, (60)), (.iload 5, 2, 0, 0, 0), (.iadd, 1, 0, 0, 0), (.iaload, 1, 0, 0, 0), (.bipush 26, 2, 0, 0, (26)), (.idiv, 1, 0, 0, 0), (.ishl, 1, 0, 0, 0)]
theorem kX4_depthOf_74 : xcode (xmb mX4_depthOf) (xmo mX4_depthOf) 74 eX4_depthOf_74 = true := by decide +kernel
def eX4_depthOf_11 : List xI := [(.bipush (-9), 2, 0, 0, (-9))]
theorem kX4_depthOf_11 : xcode (xmb mX4_depthOf) (xmo mX4_depthOf) 11 eX4_depthOf_11 = true := by decide +kernel
def wX4_depthOf_111 (p1 : Int32) (Q : Int32 → xM → Prop) (M : xM) (a3 : Int32) : Prop :=
    Q a3 M
set_option maxHeartbeats 4000000 in
set_option maxRecDepth 100000 in
theorem tX4_depthOf_111 {l : Launch} {E : xE} {p1 : Int32} {Q : Int32 → xM → Prop} (M : xM) (a3 : Int32) (h : wX4_depthOf_111 p1 Q M a3) : Gx l E mX4_depthOf (xRi Q) 111 M [none, none, none, some (.int a3), none, none] [] := by
  unfold wX4_depthOf_111 at h
  refine Gx_run (es := eX4_depthOf_111) (P := []) (M' := M) (L' := [none, none, none, some (.int a3), none, none]) (st' := [.int a3]) (pc' := 112) kX4_depthOf_111 rfl trivial rfl ?_
  exact Gx_iret (by decide +kernel) rfl rfl ⟨_, rfl, h⟩
def wX4_depthOf_93 (p1 : Int32) (Q : Int32 → xM → Prop) (k18 : xM → Int32 → Int32 → Prop) (k38 : xM → Int32 → Int32 → Int32 → Int32 → Prop) (M : xM) (a2 : Int32) (a3 : Int32) (a5 : Int32) (s0 : Int32) (s1 : Int32) : Prop :=
    k38 M a2 a3 (s1 ||| s0) (a5 + (1 : Int32))
set_option maxHeartbeats 4000000 in
set_option maxRecDepth 100000 in
theorem tX4_depthOf_93 {l : Launch} {E : xE} {p1 : Int32} {Q : Int32 → xM → Prop} {k18 : xM → Int32 → Int32 → Prop} {k38 : xM → Int32 → Int32 → Int32 → Int32 → Prop} (hk18 : ∀ (M : xM) (a2 : Int32) (a3 : Int32), k18 M a2 a3 → Gx l E mX4_depthOf (xRi Q) 18 M [some (.ref 50), some (.int p1), some (.int a2), some (.int a3), none, none] []) (hk38 : ∀ (M : xM) (a2 : Int32) (a3 : Int32) (a4 : Int32) (a5 : Int32), k38 M a2 a3 a4 a5 → Gx l E mX4_depthOf (xRi Q) 38 M [some (.ref 50), some (.int p1), some (.int a2), some (.int a3), some (.int a4), some (.int a5)] []) (M : xM) (a2 : Int32) (a3 : Int32) (a5 : Int32) (s0 : Int32) (s1 : Int32) (h : wX4_depthOf_93 p1 Q k18 k38 M a2 a3 a5 s0 s1) : Gx l E mX4_depthOf (xRi Q) 93 M [some (.ref 50), some (.int p1), some (.int a2), some (.int a3), none, some (.int a5)] [.int s0, .int s1] := by
  unfold wX4_depthOf_93 at h
  refine Gx_run (es := eX4_depthOf_93) (P := []) (M' := M) (L' := [some (.ref 50), some (.int p1), some (.int a2), some (.int a3), some (.int (s1 ||| s0)), some (.int (a5 + (1 : Int32)))]) (st' := []) (pc' := 99) kX4_depthOf_93 rfl trivial rfl ?_
  refine Gx_goto (off := -61) (tgt := 38) (by decide +kernel) (by decide) ?_
  refine Gx_mask [true, true, true, true, true, true] (L' := [some (.ref 50), some (.int p1), some (.int a2), some (.int a3), some (.int (s1 ||| s0)), some (.int (a5 + (1 : Int32)))]) rfl ?_
  exact hk38 M a2 a3 (s1 ||| s0) (a5 + (1 : Int32)) h
def wX4_depthOf_92 (p1 : Int32) (Q : Int32 → xM → Prop) (k18 : xM → Int32 → Int32 → Prop) (k38 : xM → Int32 → Int32 → Int32 → Int32 → Prop) (M : xM) (a2 : Int32) (a3 : Int32) (a5 : Int32) (s0 : Int32) : Prop :=
    wX4_depthOf_93 p1 Q k18 k38 M a2 a3 a5 (0 : Int32) s0
set_option maxHeartbeats 4000000 in
set_option maxRecDepth 100000 in
theorem tX4_depthOf_92 {l : Launch} {E : xE} {p1 : Int32} {Q : Int32 → xM → Prop} {k18 : xM → Int32 → Int32 → Prop} {k38 : xM → Int32 → Int32 → Int32 → Int32 → Prop} (hk18 : ∀ (M : xM) (a2 : Int32) (a3 : Int32), k18 M a2 a3 → Gx l E mX4_depthOf (xRi Q) 18 M [some (.ref 50), some (.int p1), some (.int a2), some (.int a3), none, none] []) (hk38 : ∀ (M : xM) (a2 : Int32) (a3 : Int32) (a4 : Int32) (a5 : Int32), k38 M a2 a3 a4 a5 → Gx l E mX4_depthOf (xRi Q) 38 M [some (.ref 50), some (.int p1), some (.int a2), some (.int a3), some (.int a4), some (.int a5)] []) (M : xM) (a2 : Int32) (a3 : Int32) (a5 : Int32) (s0 : Int32) (h : wX4_depthOf_92 p1 Q k18 k38 M a2 a3 a5 s0) : Gx l E mX4_depthOf (xRi Q) 92 M [some (.ref 50), some (.int p1), some (.int a2), some (.int a3), none, some (.int a5)] [.int s0] := by
  unfold wX4_depthOf_92 at h
  refine Gx_run (es := eX4_depthOf_92) (P := []) (M' := M) (L' := [some (.ref 50), some (.int p1), some (.int a2), some (.int a3), none, some (.int a5)]) (st' := [.int (0 : Int32), .int s0]) (pc' := 93) kX4_depthOf_92 rfl trivial rfl ?_
  refine Gx_mask [true, true, true, true, false, true] (L' := [some (.ref 50), some (.int p1), some (.int a2), some (.int a3), none, some (.int a5)]) rfl ?_
  exact tX4_depthOf_93  hk18 hk38 M a2 a3 a5 (0 : Int32) s0 h
def lX4_depthOf_38 (p1 : Int32) (Q : Int32 → xM → Prop) (k18 : xM → Int32 → Int32 → Prop) : Nat → xM → Int32 → Int32 → Int32 → Int32 → Prop
  | 0 => fun _ _ _ _ _ => False
  | n + 1 => let k38 := lX4_depthOf_38 p1 Q k18 n; fun M a2 a3 a4 a5 =>
    ((((60 : Int32) ≤ a5) → (k18 M a4 (a3 + (1 : Int32)))) ∧ ((¬ (60 : Int32) ≤ a5) → ((((¬ ((a2 >>> ((a5 / (6 : Int32)) &&& 31)) &&& (1 : Int32)) = (1 : Int32)) → (wX4_depthOf_92 p1 Q k18 k38 M a2 a3 a5 a4)) ∧ ((((a2 >>> ((a5 / (6 : Int32)) &&& 31)) &&& (1 : Int32)) = (1 : Int32)) → ((vp_in ((60 : Int32) + a5) 147) ∧ ((((M 51 ((60 : Int32) + a5).toNatClampNeg) = (-1 : Int32)) → (wX4_depthOf_92 p1 Q k18 k38 M a2 a3 a5 a4)) ∧ ((¬ (M 51 ((60 : Int32) + a5).toNatClampNeg) = (-1 : Int32)) → ((vp_in ((60 : Int32) + a5) 147) ∧ wX4_depthOf_93 p1 Q k18 k38 M a2 a3 a5 ((1 : Int32) <<< (((M 51 ((60 : Int32) + a5).toNatClampNeg) / (26 : Int32)) &&& 31)) a4)))))))))
set_option maxHeartbeats 4000000 in
set_option maxRecDepth 100000 in
theorem tX4_depthOf_38 {l : Launch} {E : xE} {p1 : Int32} {Q : Int32 → xM → Prop} {k18 : xM → Int32 → Int32 → Prop} (hk18 : ∀ (M : xM) (a2 : Int32) (a3 : Int32), k18 M a2 a3 → Gx l E mX4_depthOf (xRi Q) 18 M [some (.ref 50), some (.int p1), some (.int a2), some (.int a3), none, none] []) (n : Nat) : ∀ (M : xM) (a2 : Int32) (a3 : Int32) (a4 : Int32) (a5 : Int32), lX4_depthOf_38 p1 Q k18 n M a2 a3 a4 a5 → Gx l E mX4_depthOf (xRi Q) 38 M [some (.ref 50), some (.int p1), some (.int a2), some (.int a3), some (.int a4), some (.int a5)] [] := by
  induction n with
  | zero => intro M a2 a3 a4 a5 h; exact h.elim
  | succ n hk38 =>
      intro M a2 a3 a4 a5 h
      unfold lX4_depthOf_38 at h
      dsimp only at h
      refine Gx_run (es := eX4_depthOf_38) (P := []) (M' := M) (L' := [some (.ref 50), some (.int p1), some (.int a2), some (.int a3), some (.int a4), some (.int a5)]) (st' := [.int (60 : Int32), .int a5]) (pc' := 42) kX4_depthOf_38 rfl trivial rfl ?_
      refine Gx_icmp_ge (off := 60) (tgt := 102) (by decide +kernel) (by decide) (fun z => ?_) (fun z => ?_)
      · have h := h.1 z
        refine Gx_run (es := eX4_depthOf_102) (P := []) (M' := M) (L' := [some (.ref 50), some (.int p1), some (.int a4), some (.int (a3 + (1 : Int32))), some (.int a4), some (.int a5)]) (st' := []) (pc' := 108) kX4_depthOf_102 rfl trivial rfl ?_
        refine Gx_goto (off := -90) (tgt := 18) (by decide +kernel) (by decide) ?_
        refine Gx_mask [true, true, true, true, false, false] (L' := [some (.ref 50), some (.int p1), some (.int a4), some (.int (a3 + (1 : Int32))), none, none]) rfl ?_
        exact hk18 M a4 (a3 + (1 : Int32)) h
      · have h := h.2 z
        refine Gx_run (es := eX4_depthOf_45) (P := [¬ (6 : Int32) = 0]) (M' := M) (L' := [some (.ref 50), some (.int p1), some (.int a2), some (.int a3), some (.int a4), some (.int a5)]) (st' := [.int (1 : Int32), .int ((a2 >>> ((a5 / (6 : Int32)) &&& 31)) &&& (1 : Int32)), .int a4]) (pc' := 57) kX4_depthOf_45 rfl ⟨(by decide), trivial⟩ rfl ?_
        refine Gx_icmp_ne (off := 35) (tgt := 92) (by decide +kernel) (by decide) (fun z => ?_) (fun z => ?_)
        · have h := h.1 z
          refine Gx_mask [true, true, true, true, false, true] (L' := [some (.ref 50), some (.int p1), some (.int a2), some (.int a3), none, some (.int a5)]) rfl ?_
          exact tX4_depthOf_92  hk18 hk38 M a2 a3 a5 a4 h
        · have h := h.2 z
          obtain ⟨g60_0, h⟩ := h
          refine Gx_run (es := eX4_depthOf_60) (P := [xkd 50 = 4, xkd 51 = 5, vp_in ((60 : Int32) + a5) (xln 51)]) (M' := M) (L' := [some (.ref 50), some (.int p1), some (.int a2), some (.int a3), some (.int a4), some (.int a5)]) (st' := [.int (-1 : Int32), .int (M 51 ((60 : Int32) + a5).toNatClampNeg), .int a4]) (pc' := 71) kX4_depthOf_60 rfl ⟨rfl, rfl, g60_0, trivial⟩ rfl ?_
          refine Gx_icmp_eq (off := 21) (tgt := 92) (by decide +kernel) (by decide) (fun z => ?_) (fun z => ?_)
          · have h := h.1 z
            refine Gx_mask [true, true, true, true, false, true] (L' := [some (.ref 50), some (.int p1), some (.int a2), some (.int a3), none, some (.int a5)]) rfl ?_
            exact tX4_depthOf_92  hk18 hk38 M a2 a3 a5 a4 h
          · have h := h.2 z
            obtain ⟨g74_0, h⟩ := h
            refine Gx_run (es := eX4_depthOf_74) (P := [xkd 50 = 4, xkd 51 = 5, vp_in ((60 : Int32) + a5) (xln 51), ¬ (26 : Int32) = 0]) (M' := M) (L' := [some (.ref 50), some (.int p1), some (.int a2), some (.int a3), some (.int a4), some (.int a5)]) (st' := [.int ((1 : Int32) <<< (((M 51 ((60 : Int32) + a5).toNatClampNeg) / (26 : Int32)) &&& 31)), .int a4]) (pc' := 89) kX4_depthOf_74 rfl ⟨rfl, rfl, g74_0, (by decide), trivial⟩ rfl ?_
            refine Gx_goto (off := 4) (tgt := 93) (by decide +kernel) (by decide) ?_
            refine Gx_mask [true, true, true, true, false, true] (L' := [some (.ref 50), some (.int p1), some (.int a2), some (.int a3), none, some (.int a5)]) rfl ?_
            exact tX4_depthOf_93  hk18 hk38 M a2 a3 a5 ((1 : Int32) <<< (((M 51 ((60 : Int32) + a5).toNatClampNeg) / (26 : Int32)) &&& 31)) a4 h
def lX4_depthOf_18 (p1 : Int32) (Q : Int32 → xM → Prop) : Nat → xM → Int32 → Int32 → Prop
  | 0 => fun _ _ _ => False
  | n + 1 => let k18 := lX4_depthOf_18 p1 Q n; fun M a2 a3 =>
    (((¬ ((a2 >>> (p1 &&& 31)) &&& (1 : Int32)) = 0) → (wX4_depthOf_111 p1 Q M a3)) ∧ ((((a2 >>> (p1 &&& 31)) &&& (1 : Int32)) = 0) → (((((10 : Int32) ≤ a3) → (wX4_depthOf_111 p1 Q M a3)) ∧ ((¬ (10 : Int32) ≤ a3) → ((∃ n : Nat, lX4_depthOf_38 p1 Q k18 n M a2 a3 a2 (0 : Int32))))))))
set_option maxHeartbeats 4000000 in
set_option maxRecDepth 100000 in
theorem tX4_depthOf_18 {l : Launch} {E : xE} {p1 : Int32} {Q : Int32 → xM → Prop} (n : Nat) : ∀ (M : xM) (a2 : Int32) (a3 : Int32), lX4_depthOf_18 p1 Q n M a2 a3 → Gx l E mX4_depthOf (xRi Q) 18 M [some (.ref 50), some (.int p1), some (.int a2), some (.int a3), none, none] [] := by
  induction n with
  | zero => intro M a2 a3 h; exact h.elim
  | succ n hk18 =>
      intro M a2 a3 h
      unfold lX4_depthOf_18 at h
      dsimp only at h
      refine Gx_run (es := eX4_depthOf_18) (P := []) (M' := M) (L' := [some (.ref 50), some (.int p1), some (.int a2), some (.int a3), none, none]) (st' := [.int ((a2 >>> (p1 &&& 31)) &&& (1 : Int32))]) (pc' := 23) kX4_depthOf_18 rfl trivial rfl ?_
      refine Gx_if_ne (off := 88) (tgt := 111) (by decide +kernel) (by decide) (fun z => ?_) (fun z => ?_)
      · have h := h.1 z
        refine Gx_mask [false, false, false, true, false, false] (L' := [none, none, none, some (.int a3), none, none]) rfl ?_
        exact tX4_depthOf_111  M a3 h
      · have h := h.2 z
        refine Gx_run (es := eX4_depthOf_26) (P := []) (M' := M) (L' := [some (.ref 50), some (.int p1), some (.int a2), some (.int a3), none, none]) (st' := [.int (10 : Int32), .int a3]) (pc' := 29) kX4_depthOf_26 rfl trivial rfl ?_
        refine Gx_icmp_ge (off := 82) (tgt := 111) (by decide +kernel) (by decide) (fun z => ?_) (fun z => ?_)
        · have h := h.1 z
          refine Gx_mask [false, false, false, true, false, false] (L' := [none, none, none, some (.int a3), none, none]) rfl ?_
          exact tX4_depthOf_111  M a3 h
        · have h := h.2 z
          refine Gx_run (es := eX4_depthOf_32) (P := []) (M' := M) (L' := [some (.ref 50), some (.int p1), some (.int a2), some (.int a3), some (.int a2), some (.int (0 : Int32))]) (st' := []) (pc' := 38) kX4_depthOf_32 rfl trivial rfl ?_
          refine Gx_mask [true, true, true, true, true, true] (L' := [some (.ref 50), some (.int p1), some (.int a2), some (.int a3), some (.int a2), some (.int (0 : Int32))]) rfl ?_
          obtain ⟨n, h⟩ := h
          exact tX4_depthOf_38  hk18 n M a2 a3 a2 (0 : Int32) h
def wX4_depthOf (M : xM) (p1 : Int32) (Q : Int32 → xM → Prop) : Prop :=
    (vp_in ((0 : Int32) + p1) 147) ∧ (((¬ (M 51 ((0 : Int32) + p1).toNatClampNeg) = 0) → ((∃ n : Nat, lX4_depthOf_18 p1 Q n M (1 : Int32) (0 : Int32)))) ∧ (((M 51 ((0 : Int32) + p1).toNatClampNeg) = 0) → (Q (-9 : Int32) M)))
set_option maxHeartbeats 4000000 in
set_option maxRecDepth 100000 in
theorem tX4_depthOf {l : Launch} {E : xE} {M : xM} {p1 : Int32} {Q : Int32 → xM → Prop} (h : wX4_depthOf M p1 Q) : Ct l E mX4_depthOf [.ref 50, .int p1] M (xRi Q) := by
  refine Ct_of (by decide +kernel) rfl (Nat.le_of_ble_eq_true rfl) ?_
  unfold wX4_depthOf at h
  show Gx l E mX4_depthOf (xRi Q) 0 M [some (.ref 50), some (.int p1), none, none, none, none] []
  obtain ⟨g0_0, h⟩ := h
  refine Gx_run (es := eX4_depthOf_0) (P := [xkd 50 = 4, xkd 51 = 5, vp_in ((0 : Int32) + p1) (xln 51)]) (M' := M) (L' := [some (.ref 50), some (.int p1), none, none, none, none]) (st' := [.int (M 51 ((0 : Int32) + p1).toNatClampNeg)]) (pc' := 8) kX4_depthOf_0 rfl ⟨rfl, rfl, g0_0, trivial⟩ rfl ?_
  refine Gx_if_ne (off := 6) (tgt := 14) (by decide +kernel) (by decide) (fun z => ?_) (fun z => ?_)
  · have h := h.1 z
    refine Gx_run (es := eX4_depthOf_14) (P := []) (M' := M) (L' := [some (.ref 50), some (.int p1), some (.int (1 : Int32)), some (.int (0 : Int32)), none, none]) (st' := []) (pc' := 18) kX4_depthOf_14 rfl trivial rfl ?_
    refine Gx_mask [true, true, true, true, false, false] (L' := [some (.ref 50), some (.int p1), some (.int (1 : Int32)), some (.int (0 : Int32)), none, none]) rfl ?_
    obtain ⟨n, h⟩ := h
    exact tX4_depthOf_18  n M (1 : Int32) (0 : Int32) h
  · have h := h.2 z
    refine Gx_run (es := eX4_depthOf_11) (P := []) (M' := M) (L' := [some (.ref 50), some (.int p1), none, none, none, none]) (st' := [.int (-9 : Int32)]) (pc' := 13) kX4_depthOf_11 rfl trivial rfl ?_
    exact Gx_iret (by decide +kernel) rfl rfl ⟨_, rfl, h⟩
def eX4_drawn_0 : List xI := [(.aload_n 0, 1, 0, 0, 0), (.aload_n 0, 1, 0, 0, 0), (.getfield 244, 3, 4, 17, 0), (.ldc 247, 2, 0, 0, (1664525)), (.imul, 1, 0, 0, 0), (.ldc 248, 2, 0, 0, (1013904223)), (.iadd, 1, 0, 0, 0), (.putfield 244, 3, 4, 17, 0), (.aload_n 0, 1, 0, 0, 0), (.getfield 244, 3, 4, 17, 0), (.ldc 249, 2, 0, 0, (2147483647)), (.iand, 1, 0, 0, 0), (.sipush 256, 3, 0, 0, (256)), (.idiv, 1, 0, 0, 0), (.iload_n 1, 1, 0, 0, 0), (.irem, 1, 0, 0, 0)]
theorem kX4_drawn_0 : xcode (xmb mX4_drawn) (xmo mX4_drawn) 0 eX4_drawn_0 = true := by decide +kernel
def wX4_drawn (M : xM) (p1 : Int32) (Q : Int32 → xM → Prop) : Prop :=
    (¬ p1 = 0) ∧ Q (((((xup M 50 17 (((M 50 17) * (1664525 : Int32)) + (1013904223 : Int32))) 50 17) &&& (2147483647 : Int32)) / (256 : Int32)) - ((((xup M 50 17 (((M 50 17) * (1664525 : Int32)) + (1013904223 : Int32))) 50 17) &&& (2147483647 : Int32)) / (256 : Int32)) / p1 * p1) (xup M 50 17 (((M 50 17) * (1664525 : Int32)) + (1013904223 : Int32)))
set_option maxHeartbeats 4000000 in
set_option maxRecDepth 100000 in
theorem tX4_drawn {l : Launch} {E : xE} {M : xM} {p1 : Int32} {Q : Int32 → xM → Prop} (h : wX4_drawn M p1 Q) : Ct l E mX4_drawn [.ref 50, .int p1] M (xRi Q) := by
  refine Ct_of (by decide +kernel) rfl (Nat.le_of_ble_eq_true rfl) ?_
  unfold wX4_drawn at h
  show Gx l E mX4_drawn (xRi Q) 0 M [some (.ref 50), some (.int p1)] []
  obtain ⟨g0_0, h⟩ := h
  refine Gx_run (es := eX4_drawn_0) (P := [xkd 50 = 4, xkd 50 = 4, xkd 50 = 4, ¬ (256 : Int32) = 0, ¬ p1 = 0]) (M' := (xup M 50 17 (((M 50 17) * (1664525 : Int32)) + (1013904223 : Int32)))) (L' := [some (.ref 50), some (.int p1)]) (st' := [.int (((((xup M 50 17 (((M 50 17) * (1664525 : Int32)) + (1013904223 : Int32))) 50 17) &&& (2147483647 : Int32)) / (256 : Int32)) - ((((xup M 50 17 (((M 50 17) * (1664525 : Int32)) + (1013904223 : Int32))) 50 17) &&& (2147483647 : Int32)) / (256 : Int32)) / p1 * p1)]) (pc' := 27) kX4_drawn_0 rfl ⟨rfl, rfl, rfl, (by decide), g0_0, trivial⟩ rfl ?_
  exact Gx_iret (by decide +kernel) rfl rfl ⟨_, rfl, h⟩
def eX4_entries_0 : List xI := [(.iconst 0, 1, 0, 0, (0)), (.istore_n 1, 1, 0, 0, 0), (.iconst 0, 1, 0, 0, (0)), (.istore_n 2, 1, 0, 0, 0)]
theorem kX4_entries_0 : xcode (xmb mX4_entries) (xmo mX4_entries) 0 eX4_entries_0 = true := by decide +kernel
def eX4_entries_4 : List xI := [(.iload_n 2, 1, 0, 0, 0), (.bipush 60, 2, 0, 0, (60))]
theorem kX4_entries_4 : xcode (xmb mX4_entries) (xmo mX4_entries) 4 eX4_entries_4 = true := by decide +kernel
def eX4_entries_37 : List xI := [(.iload_n 1, 1, 0, 0, 0)]
theorem kX4_entries_37 : xcode (xmb mX4_entries) (xmo mX4_entries) 37 eX4_entries_37 = true := by decide +kernel
def eX4_entries_10 : List xI := [(.iload_n 1, 1, 0, 0, 0), (.aload_n 0, 1, 0, 0, 0), (.getfield 7, 3, 4, 1, 0), (.bipush 60, 2, 0, 0, (60)), (.iload_n 2, 1, 0, 0, 0), (.iadd, 1, 0, 0, 0), (.iaload, 1, 0, 0, 0), (.iconst (-1), 1, 0, 0, (-1))]
theorem kX4_entries_10 : xcode (xmb mX4_entries) (xmo mX4_entries) 10 eX4_entries_10 = true := by decide +kernel
def eX4_entries_28 : List xI := [(.iconst 1, 1, 0, 0, (1))]
theorem kX4_entries_28 : xcode (xmb mX4_entries) (xmo mX4_entries) 28 eX4_entries_28 = true := by decide +kernel
def eX4_entries_29 : List xI := [(.iadd, 1, 0, 0, 0), (.istore_n 1, 1, 0, 0, 0), (.iinc 2 1, 3, 0, 0, (1))]
theorem kX4_entries_29 : xcode (xmb mX4_entries) (xmo mX4_entries) 29 eX4_entries_29 = true := by decide +kernel
def eX4_entries_24 : List xI := [(.iconst 0, 1, 0, 0, (0))]
theorem kX4_entries_24 : xcode (xmb mX4_entries) (xmo mX4_entries) 24 eX4_entries_24 = true := by decide +kernel
def wX4_entries_29 (Q : Int32 → xM → Prop) (k4 : xM → Int32 → Int32 → Prop) (M : xM) (a2 : Int32) (s0 : Int32) (s1 : Int32) : Prop :=
    k4 M (s1 + s0) (a2 + (1 : Int32))
set_option maxHeartbeats 4000000 in
set_option maxRecDepth 100000 in
theorem tX4_entries_29 {l : Launch} {E : xE} {Q : Int32 → xM → Prop} {k4 : xM → Int32 → Int32 → Prop} (hk4 : ∀ (M : xM) (a1 : Int32) (a2 : Int32), k4 M a1 a2 → Gx l E mX4_entries (xRi Q) 4 M [some (.ref 50), some (.int a1), some (.int a2)] []) (M : xM) (a2 : Int32) (s0 : Int32) (s1 : Int32) (h : wX4_entries_29  Q k4 M a2 s0 s1) : Gx l E mX4_entries (xRi Q) 29 M [some (.ref 50), none, some (.int a2)] [.int s0, .int s1] := by
  unfold wX4_entries_29 at h
  refine Gx_run (es := eX4_entries_29) (P := []) (M' := M) (L' := [some (.ref 50), some (.int (s1 + s0)), some (.int (a2 + (1 : Int32)))]) (st' := []) (pc' := 34) kX4_entries_29 rfl trivial rfl ?_
  refine Gx_goto (off := -30) (tgt := 4) (by decide +kernel) (by decide) ?_
  refine Gx_mask [true, true, true] (L' := [some (.ref 50), some (.int (s1 + s0)), some (.int (a2 + (1 : Int32)))]) rfl ?_
  exact hk4 M (s1 + s0) (a2 + (1 : Int32)) h
def lX4_entries_4 (Q : Int32 → xM → Prop) : Nat → xM → Int32 → Int32 → Prop
  | 0 => fun _ _ _ => False
  | n + 1 => let k4 := lX4_entries_4  Q n; fun M a1 a2 =>
    ((((60 : Int32) ≤ a2) → (Q a1 M)) ∧ ((¬ (60 : Int32) ≤ a2) → ((vp_in ((60 : Int32) + a2) 147) ∧ (((¬ (M 51 ((60 : Int32) + a2).toNatClampNeg) = (-1 : Int32)) → (wX4_entries_29  Q k4 M a2 (1 : Int32) a1)) ∧ (((M 51 ((60 : Int32) + a2).toNatClampNeg) = (-1 : Int32)) → (wX4_entries_29  Q k4 M a2 (0 : Int32) a1))))))
set_option maxHeartbeats 4000000 in
set_option maxRecDepth 100000 in
theorem tX4_entries_4 {l : Launch} {E : xE} {Q : Int32 → xM → Prop} (n : Nat) : ∀ (M : xM) (a1 : Int32) (a2 : Int32), lX4_entries_4  Q n M a1 a2 → Gx l E mX4_entries (xRi Q) 4 M [some (.ref 50), some (.int a1), some (.int a2)] [] := by
  induction n with
  | zero => intro M a1 a2 h; exact h.elim
  | succ n hk4 =>
      intro M a1 a2 h
      unfold lX4_entries_4 at h
      dsimp only at h
      refine Gx_run (es := eX4_entries_4) (P := []) (M' := M) (L' := [some (.ref 50), some (.int a1), some (.int a2)]) (st' := [.int (60 : Int32), .int a2]) (pc' := 7) kX4_entries_4 rfl trivial rfl ?_
      refine Gx_icmp_ge (off := 30) (tgt := 37) (by decide +kernel) (by decide) (fun z => ?_) (fun z => ?_)
      · have h := h.1 z
        refine Gx_run (es := eX4_entries_37) (P := []) (M' := M) (L' := [some (.ref 50), some (.int a1), some (.int a2)]) (st' := [.int a1]) (pc' := 38) kX4_entries_37 rfl trivial rfl ?_
        exact Gx_iret (by decide +kernel) rfl rfl ⟨_, rfl, h⟩
      · have h := h.2 z
        obtain ⟨g10_0, h⟩ := h
        refine Gx_run (es := eX4_entries_10) (P := [xkd 50 = 4, xkd 51 = 5, vp_in ((60 : Int32) + a2) (xln 51)]) (M' := M) (L' := [some (.ref 50), some (.int a1), some (.int a2)]) (st' := [.int (-1 : Int32), .int (M 51 ((60 : Int32) + a2).toNatClampNeg), .int a1]) (pc' := 21) kX4_entries_10 rfl ⟨rfl, rfl, g10_0, trivial⟩ rfl ?_
        refine Gx_icmp_ne (off := 7) (tgt := 28) (by decide +kernel) (by decide) (fun z => ?_) (fun z => ?_)
        · have h := h.1 z
          refine Gx_run (es := eX4_entries_28) (P := []) (M' := M) (L' := [some (.ref 50), some (.int a1), some (.int a2)]) (st' := [.int (1 : Int32), .int a1]) (pc' := 29) kX4_entries_28 rfl trivial rfl ?_
          refine Gx_mask [true, false, true] (L' := [some (.ref 50), none, some (.int a2)]) rfl ?_
          exact tX4_entries_29  hk4 M a2 (1 : Int32) a1 h
        · have h := h.2 z
          refine Gx_run (es := eX4_entries_24) (P := []) (M' := M) (L' := [some (.ref 50), some (.int a1), some (.int a2)]) (st' := [.int (0 : Int32), .int a1]) (pc' := 25) kX4_entries_24 rfl trivial rfl ?_
          refine Gx_goto (off := 4) (tgt := 29) (by decide +kernel) (by decide) ?_
          refine Gx_mask [true, false, true] (L' := [some (.ref 50), none, some (.int a2)]) rfl ?_
          exact tX4_entries_29  hk4 M a2 (0 : Int32) a1 h
def wX4_entries (M : xM) (Q : Int32 → xM → Prop) : Prop :=
    (∃ n : Nat, lX4_entries_4  Q n M (0 : Int32) (0 : Int32))
set_option maxHeartbeats 4000000 in
set_option maxRecDepth 100000 in
theorem tX4_entries {l : Launch} {E : xE} {M : xM} {Q : Int32 → xM → Prop} (h : wX4_entries M  Q) : Ct l E mX4_entries [.ref 50] M (xRi Q) := by
  refine Ct_of (by decide +kernel) rfl (Nat.le_of_ble_eq_true rfl) ?_
  unfold wX4_entries at h
  show Gx l E mX4_entries (xRi Q) 0 M [some (.ref 50), none, none] []
  refine Gx_run (es := eX4_entries_0) (P := []) (M' := M) (L' := [some (.ref 50), some (.int (0 : Int32)), some (.int (0 : Int32))]) (st' := []) (pc' := 4) kX4_entries_0 rfl trivial rfl ?_
  refine Gx_mask [true, true, true] (L' := [some (.ref 50), some (.int (0 : Int32)), some (.int (0 : Int32))]) rfl ?_
  obtain ⟨n, h⟩ := h
  exact tX4_entries_4  n M (0 : Int32) (0 : Int32) h
def eX4_goesBack_0 : List xI := [(.iconst 0, 1, 0, 0, (0)), (.istore_n 1, 1, 0, 0, 0)]
theorem kX4_goesBack_0 : xcode (xmb mX4_goesBack) (xmo mX4_goesBack) 0 eX4_goesBack_0 = true := by decide +kernel
def eX4_goesBack_2 : List xI := [(.iload_n 1, 1, 0, 0, 0), (.sipush 147, 3, 0, 0, (147))]
theorem kX4_goesBack_2 : xcode (xmb mX4_goesBack) (xmo mX4_goesBack) 2 eX4_goesBack_2 = true := by decide +kernel
def eX4_goesBack_9 : List xI := [(.aload_n 0, 1, 0, 0, 0), (.getfield 7, 3, 4, 1, 0), (.iload_n 1, 1, 0, 0, 0), (.aload_n 0, 1, 0, 0, 0), (.getfield 16, 3, 4, 3, 0), (.iload_n 1, 1, 0, 0, 0), (.iaload, 1, 0, 0, 0), (.iastore, 1, 0, 0, 0), (.iinc 1 1, 3, 0, 0, (1))]
theorem kX4_goesBack_9 : xcode (xmb mX4_goesBack) (xmo mX4_goesBack) 9 eX4_goesBack_9 = true := by decide +kernel
def lX4_goesBack_2 (Q : xM → Prop) : Nat → xM → Int32 → Prop
  | 0 => fun _ _ => False
  | n + 1 => let k2 := lX4_goesBack_2  Q n; fun M a1 =>
    ((((147 : Int32) ≤ a1) → (Q M)) ∧ ((¬ (147 : Int32) ≤ a1) → ((vp_in a1 147) ∧ k2 (xup M 51 a1.toNatClampNeg (M 53 a1.toNatClampNeg)) (a1 + (1 : Int32)))))
set_option maxHeartbeats 4000000 in
set_option maxRecDepth 100000 in
theorem tX4_goesBack_2 {l : Launch} {E : xE} {Q : xM → Prop} (n : Nat) : ∀ (M : xM) (a1 : Int32), lX4_goesBack_2  Q n M a1 → Gx l E mX4_goesBack (xRv Q) 2 M [some (.ref 50), some (.int a1)] [] := by
  induction n with
  | zero => intro M a1 h; exact h.elim
  | succ n hk2 =>
      intro M a1 h
      unfold lX4_goesBack_2 at h
      dsimp only at h
      refine Gx_run (es := eX4_goesBack_2) (P := []) (M' := M) (L' := [some (.ref 50), some (.int a1)]) (st' := [.int (147 : Int32), .int a1]) (pc' := 6) kX4_goesBack_2 rfl trivial rfl ?_
      refine Gx_icmp_ge (off := 21) (tgt := 27) (by decide +kernel) (by decide) (fun z => ?_) (fun z => ?_)
      · have h := h.1 z
        exact Gx_vret (by decide +kernel) rfl ⟨rfl, h⟩
      · have h := h.2 z
        obtain ⟨g9_0, h⟩ := h
        refine Gx_run (es := eX4_goesBack_9) (P := [xkd 50 = 4, xkd 50 = 4, xkd 53 = 5, vp_in a1 (xln 53), xkd 51 = 5, vp_in a1 (xln 51)]) (M' := (xup M 51 a1.toNatClampNeg (M 53 a1.toNatClampNeg))) (L' := [some (.ref 50), some (.int (a1 + (1 : Int32)))]) (st' := []) (pc' := 24) kX4_goesBack_9 rfl ⟨rfl, rfl, rfl, g9_0, rfl, g9_0, trivial⟩ rfl ?_
        refine Gx_goto (off := -22) (tgt := 2) (by decide +kernel) (by decide) ?_
        refine Gx_mask [true, true] (L' := [some (.ref 50), some (.int (a1 + (1 : Int32)))]) rfl ?_
        exact hk2 (xup M 51 a1.toNatClampNeg (M 53 a1.toNatClampNeg)) (a1 + (1 : Int32)) h
def wX4_goesBack (M : xM) (Q : xM → Prop) : Prop :=
    (∃ n : Nat, lX4_goesBack_2  Q n M (0 : Int32))
set_option maxHeartbeats 4000000 in
set_option maxRecDepth 100000 in
theorem tX4_goesBack {l : Launch} {E : xE} {M : xM} {Q : xM → Prop} (h : wX4_goesBack M  Q) : Ct l E mX4_goesBack [.ref 50] M (xRv Q) := by
  refine Ct_of (by decide +kernel) rfl (Nat.le_of_ble_eq_true rfl) ?_
  unfold wX4_goesBack at h
  show Gx l E mX4_goesBack (xRv Q) 0 M [some (.ref 50), none] []
  refine Gx_run (es := eX4_goesBack_0) (P := []) (M' := M) (L' := [some (.ref 50), some (.int (0 : Int32))]) (st' := []) (pc' := 2) kX4_goesBack_0 rfl trivial rfl ?_
  refine Gx_mask [true, true] (L' := [some (.ref 50), some (.int (0 : Int32))]) rfl ?_
  obtain ⟨n, h⟩ := h
  exact tX4_goesBack_2  n M (0 : Int32) h
def eX4_here_0 : List xI := [(.aload_n 0, 1, 0, 0, 0), (.getfield 61, 3, 4, 8, 0), (.aload_n 0, 1, 0, 0, 0), (.getfield 58, 3, 4, 7, 0)]
theorem kX4_here_0 : xcode (xmb mX4_here) (xmo mX4_here) 0 eX4_here_0 = true := by decide +kernel
def eX4_here_23 : List xI := [(.iconst (-1), 1, 0, 0, (-1))]
theorem kX4_here_23 : xcode (xmb mX4_here) (xmo mX4_here) 23 eX4_here_23 = true := by decide +kernel
def eX4_here_11 : List xI := [(.aload_n 0, 1, 0, 0, 0), (.getfield 22, 3, 4, 6, 0), (.aload_n 0, 1, 0, 0, 0), (.getfield 61, 3, 4, 8, 0), (.iaload, 1, 0, 0, 0)]
theorem kX4_here_11 : xcode (xmb mX4_here) (xmo mX4_here) 11 eX4_here_11 = true := by decide +kernel
def wX4_here_24 (Q : Int32 → xM → Prop) (M : xM) (s0 : Int32) : Prop :=
    Q s0 M
set_option maxHeartbeats 4000000 in
set_option maxRecDepth 100000 in
theorem tX4_here_24 {l : Launch} {E : xE} {Q : Int32 → xM → Prop} (M : xM) (s0 : Int32) (h : wX4_here_24  Q M s0) : Gx l E mX4_here (xRi Q) 24 M [none] [.int s0] := by
  unfold wX4_here_24 at h
  exact Gx_iret (by decide +kernel) rfl rfl ⟨_, rfl, h⟩
def wX4_here (M : xM) (Q : Int32 → xM → Prop) : Prop :=
    ((((M 50 7) ≤ (M 50 8)) → (wX4_here_24  Q M (-1 : Int32))) ∧ ((¬ (M 50 7) ≤ (M 50 8)) → ((vp_in (M 50 8) 96) ∧ wX4_here_24  Q M (M 55 (M 50 8).toNatClampNeg))))
set_option maxHeartbeats 4000000 in
set_option maxRecDepth 100000 in
theorem tX4_here {l : Launch} {E : xE} {M : xM} {Q : Int32 → xM → Prop} (h : wX4_here M  Q) : Ct l E mX4_here [.ref 50] M (xRi Q) := by
  refine Ct_of (by decide +kernel) rfl (Nat.le_of_ble_eq_true rfl) ?_
  unfold wX4_here at h
  show Gx l E mX4_here (xRi Q) 0 M [some (.ref 50)] []
  refine Gx_run (es := eX4_here_0) (P := [xkd 50 = 4, xkd 50 = 4]) (M' := M) (L' := [some (.ref 50)]) (st' := [.int (M 50 7), .int (M 50 8)]) (pc' := 8) kX4_here_0 rfl ⟨rfl, rfl, trivial⟩ rfl ?_
  refine Gx_icmp_ge (off := 15) (tgt := 23) (by decide +kernel) (by decide) (fun z => ?_) (fun z => ?_)
  · have h := h.1 z
    refine Gx_run (es := eX4_here_23) (P := []) (M' := M) (L' := [some (.ref 50)]) (st' := [.int (-1 : Int32)]) (pc' := 24) kX4_here_23 rfl trivial rfl ?_
    refine Gx_mask [false] (L' := [none]) rfl ?_
    exact tX4_here_24  M (-1 : Int32) h
  · have h := h.2 z
    obtain ⟨g11_0, h⟩ := h
    refine Gx_run (es := eX4_here_11) (P := [xkd 50 = 4, xkd 50 = 4, xkd 55 = 5, vp_in (M 50 8) (xln 55)]) (M' := M) (L' := [some (.ref 50)]) (st' := [.int (M 55 (M 50 8).toNatClampNeg)]) (pc' := 20) kX4_here_11 rfl ⟨rfl, rfl, rfl, g11_0, trivial⟩ rfl ?_
    refine Gx_goto (off := 4) (tgt := 24) (by decide +kernel) (by decide) ?_
    refine Gx_mask [false] (L' := [none]) rfl ?_
    exact tX4_here_24  M (M 55 (M 50 8).toNatClampNeg) h
def eX4_holds_0 : List xI := [(.iload_n 0, 1, 0, 0, 0), (.iconst 1, 1, 0, 0, (1))]
theorem kX4_holds_0 : xcode (xmb mX4_holds) (xmo mX4_holds) 0 eX4_holds_0 = true := by decide +kernel
def eX4_holds_9 : List xI := [(.iload_n 0, 1, 0, 0, 0), (.iconst 4, 1, 0, 0, (4))]
theorem kX4_holds_9 : xcode (xmb mX4_holds) (xmo mX4_holds) 9 eX4_holds_9 = true := by decide +kernel
def eX4_holds_18 : List xI := [(.iload_n 0, 1, 0, 0, 0), (.iconst 2, 1, 0, 0, (2))]
theorem kX4_holds_18 : xcode (xmb mX4_holds) (xmo mX4_holds) 18 eX4_holds_18 = true := by decide +kernel
def eX4_holds_28 : List xI := [(.iconst 1, 1, 0, 0, (1))]
theorem kX4_holds_28 : xcode (xmb mX4_holds) (xmo mX4_holds) 28 eX4_holds_28 = true := by decide +kernel
def eX4_holds_23 : List xI := [(.iload_n 0, 1, 0, 0, 0), (.iconst 5, 1, 0, 0, (5))]
theorem kX4_holds_23 : xcode (xmb mX4_holds) (xmo mX4_holds) 23 eX4_holds_23 = true := by decide +kernel
def eX4_holds_32 : List xI := [(.iconst 0, 1, 0, 0, (0))]
theorem kX4_holds_32 : xcode (xmb mX4_holds) (xmo mX4_holds) 32 eX4_holds_32 = true := by decide +kernel
def eX4_holds_14 : List xI := [(.iconst 2, 1, 0, 0, (2))]
theorem kX4_holds_14 : xcode (xmb mX4_holds) (xmo mX4_holds) 14 eX4_holds_14 = true := by decide +kernel
def eX4_holds_5 : List xI := [(.iconst 3, 1, 0, 0, (3))]
theorem kX4_holds_5 : xcode (xmb mX4_holds) (xmo mX4_holds) 5 eX4_holds_5 = true := by decide +kernel
def wX4_holds_33 (p1 : Int32) (Q : Int32 → xM → Prop) (M : xM) (s0 : Int32) : Prop :=
    Q s0 M
set_option maxHeartbeats 4000000 in
set_option maxRecDepth 100000 in
theorem tX4_holds_33 {l : Launch} {E : xE} {p1 : Int32} {Q : Int32 → xM → Prop} (M : xM) (s0 : Int32) (h : wX4_holds_33 p1 Q M s0) : Gx l E mX4_holds (xRi Q) 33 M [none] [.int s0] := by
  unfold wX4_holds_33 at h
  exact Gx_iret (by decide +kernel) rfl rfl ⟨_, rfl, h⟩
def wX4_holds_28 (p1 : Int32) (Q : Int32 → xM → Prop) (M : xM) : Prop :=
    wX4_holds_33 p1 Q M (1 : Int32)
set_option maxHeartbeats 4000000 in
set_option maxRecDepth 100000 in
theorem tX4_holds_28 {l : Launch} {E : xE} {p1 : Int32} {Q : Int32 → xM → Prop} (M : xM) (h : wX4_holds_28 p1 Q M ) : Gx l E mX4_holds (xRi Q) 28 M [none] [] := by
  unfold wX4_holds_28 at h
  refine Gx_run (es := eX4_holds_28) (P := []) (M' := M) (L' := [none]) (st' := [.int (1 : Int32)]) (pc' := 29) kX4_holds_28 rfl trivial rfl ?_
  refine Gx_goto (off := 4) (tgt := 33) (by decide +kernel) (by decide) ?_
  refine Gx_mask [false] (L' := [none]) rfl ?_
  exact tX4_holds_33  M (1 : Int32) h
def wX4_holds (M : xM) (p1 : Int32) (Q : Int32 → xM → Prop) : Prop :=
    (((¬ p1 = (1 : Int32)) → ((((¬ p1 = (4 : Int32)) → ((((p1 = (2 : Int32)) → (wX4_holds_28 p1 Q M)) ∧ ((¬ p1 = (2 : Int32)) → ((((¬ p1 = (5 : Int32)) → (wX4_holds_33 p1 Q M (0 : Int32))) ∧ ((p1 = (5 : Int32)) → (wX4_holds_28 p1 Q M)))))))) ∧ ((p1 = (4 : Int32)) → (wX4_holds_33 p1 Q M (2 : Int32)))))) ∧ ((p1 = (1 : Int32)) → (wX4_holds_33 p1 Q M (3 : Int32))))
set_option maxHeartbeats 4000000 in
set_option maxRecDepth 100000 in
theorem tX4_holds {l : Launch} {E : xE} {M : xM} {p1 : Int32} {Q : Int32 → xM → Prop} (h : wX4_holds M p1 Q) : Ct l E mX4_holds [.int p1] M (xRi Q) := by
  refine Ct_of (by decide +kernel) rfl (Nat.le_of_ble_eq_true rfl) ?_
  unfold wX4_holds at h
  show Gx l E mX4_holds (xRi Q) 0 M [some (.int p1)] []
  refine Gx_run (es := eX4_holds_0) (P := []) (M' := M) (L' := [some (.int p1)]) (st' := [.int (1 : Int32), .int p1]) (pc' := 2) kX4_holds_0 rfl trivial rfl ?_
  refine Gx_icmp_ne (off := 7) (tgt := 9) (by decide +kernel) (by decide) (fun z => ?_) (fun z => ?_)
  · have h := h.1 z
    refine Gx_run (es := eX4_holds_9) (P := []) (M' := M) (L' := [some (.int p1)]) (st' := [.int (4 : Int32), .int p1]) (pc' := 11) kX4_holds_9 rfl trivial rfl ?_
    refine Gx_icmp_ne (off := 7) (tgt := 18) (by decide +kernel) (by decide) (fun z => ?_) (fun z => ?_)
    · have h := h.1 z
      refine Gx_run (es := eX4_holds_18) (P := []) (M' := M) (L' := [some (.int p1)]) (st' := [.int (2 : Int32), .int p1]) (pc' := 20) kX4_holds_18 rfl trivial rfl ?_
      refine Gx_icmp_eq (off := 8) (tgt := 28) (by decide +kernel) (by decide) (fun z => ?_) (fun z => ?_)
      · have h := h.1 z
        refine Gx_mask [false] (L' := [none]) rfl ?_
        exact tX4_holds_28  M h
      · have h := h.2 z
        refine Gx_run (es := eX4_holds_23) (P := []) (M' := M) (L' := [some (.int p1)]) (st' := [.int (5 : Int32), .int p1]) (pc' := 25) kX4_holds_23 rfl trivial rfl ?_
        refine Gx_icmp_ne (off := 7) (tgt := 32) (by decide +kernel) (by decide) (fun z => ?_) (fun z => ?_)
        · have h := h.1 z
          refine Gx_run (es := eX4_holds_32) (P := []) (M' := M) (L' := [some (.int p1)]) (st' := [.int (0 : Int32)]) (pc' := 33) kX4_holds_32 rfl trivial rfl ?_
          refine Gx_mask [false] (L' := [none]) rfl ?_
          exact tX4_holds_33  M (0 : Int32) h
        · have h := h.2 z
          refine Gx_mask [false] (L' := [none]) rfl ?_
          exact tX4_holds_28  M h
    · have h := h.2 z
      refine Gx_run (es := eX4_holds_14) (P := []) (M' := M) (L' := [some (.int p1)]) (st' := [.int (2 : Int32)]) (pc' := 15) kX4_holds_14 rfl trivial rfl ?_
      refine Gx_goto (off := 18) (tgt := 33) (by decide +kernel) (by decide) ?_
      refine Gx_mask [false] (L' := [none]) rfl ?_
      exact tX4_holds_33  M (2 : Int32) h
  · have h := h.2 z
    refine Gx_run (es := eX4_holds_5) (P := []) (M' := M) (L' := [some (.int p1)]) (st' := [.int (3 : Int32)]) (pc' := 6) kX4_holds_5 rfl trivial rfl ?_
    refine Gx_goto (off := 27) (tgt := 33) (by decide +kernel) (by decide) ?_
    refine Gx_mask [false] (L' := [none]) rfl ?_
    exact tX4_holds_33  M (3 : Int32) h
def eX4_in_0 : List xI := [(.iload_n 0, 1, 0, 0, 0), (.iload_n 1, 1, 0, 0, 0)]
theorem kX4_in_0 : xcode (xmb mX4_in) (xmo mX4_in) 0 eX4_in_0 = true := by decide +kernel
def eX4_in_14 : List xI := [(.iconst 0, 1, 0, 0, (0))]
theorem kX4_in_14 : xcode (xmb mX4_in) (xmo mX4_in) 14 eX4_in_14 = true := by decide +kernel
def eX4_in_5 : List xI := [(.iload_n 0, 1, 0, 0, 0), (.iload_n 2, 1, 0, 0, 0)]
theorem kX4_in_5 : xcode (xmb mX4_in) (xmo mX4_in) 5 eX4_in_5 = true := by decide +kernel
def eX4_in_10 : List xI := [(.iconst 1, 1, 0, 0, (1))]
theorem kX4_in_10 : xcode (xmb mX4_in) (xmo mX4_in) 10 eX4_in_10 = true := by decide +kernel
def wX4_in_15 (p1 : Int32) (p2 : Int32) (p3 : Int32) (Q : Int32 → xM → Prop) (M : xM) (s0 : Int32) : Prop :=
    (s0 &&& 1 = s0) ∧ Q s0 M
set_option maxHeartbeats 4000000 in
set_option maxRecDepth 100000 in
theorem tX4_in_15 {l : Launch} {E : xE} {p1 : Int32} {p2 : Int32} {p3 : Int32} {Q : Int32 → xM → Prop} (M : xM) (s0 : Int32) (h : wX4_in_15 p1 p2 p3 Q M s0) : Gx l E mX4_in (xRi Q) 15 M [none, none, none] [.int s0] := by
  unfold wX4_in_15 at h
  exact Gx_iret (by decide +kernel) rfl (congrArg Value.int h.1) ⟨_, rfl, h.2⟩
def wX4_in_14 (p1 : Int32) (p2 : Int32) (p3 : Int32) (Q : Int32 → xM → Prop) (M : xM) : Prop :=
    wX4_in_15 p1 p2 p3 Q M (0 : Int32)
set_option maxHeartbeats 4000000 in
set_option maxRecDepth 100000 in
theorem tX4_in_14 {l : Launch} {E : xE} {p1 : Int32} {p2 : Int32} {p3 : Int32} {Q : Int32 → xM → Prop} (M : xM) (h : wX4_in_14 p1 p2 p3 Q M ) : Gx l E mX4_in (xRi Q) 14 M [none, none, none] [] := by
  unfold wX4_in_14 at h
  refine Gx_run (es := eX4_in_14) (P := []) (M' := M) (L' := [none, none, none]) (st' := [.int (0 : Int32)]) (pc' := 15) kX4_in_14 rfl trivial rfl ?_
  refine Gx_mask [false, false, false] (L' := [none, none, none]) rfl ?_
  exact tX4_in_15  M (0 : Int32) h
def wX4_in (M : xM) (p1 : Int32) (p2 : Int32) (p3 : Int32) (Q : Int32 → xM → Prop) : Prop :=
    (((p1 < p2) → (wX4_in_14 p1 p2 p3 Q M)) ∧ ((¬ p1 < p2) → ((((p3 < p1) → (wX4_in_14 p1 p2 p3 Q M)) ∧ ((¬ p3 < p1) → (wX4_in_15 p1 p2 p3 Q M (1 : Int32)))))))
set_option maxHeartbeats 4000000 in
set_option maxRecDepth 100000 in
theorem tX4_in {l : Launch} {E : xE} {M : xM} {p1 : Int32} {p2 : Int32} {p3 : Int32} {Q : Int32 → xM → Prop} (h : wX4_in M p1 p2 p3 Q) : Ct l E mX4_in [.int p1, .int p2, .int p3] M (xRi Q) := by
  refine Ct_of (by decide +kernel) rfl (Nat.le_of_ble_eq_true rfl) ?_
  unfold wX4_in at h
  show Gx l E mX4_in (xRi Q) 0 M [some (.int p1), some (.int p2), some (.int p3)] []
  refine Gx_run (es := eX4_in_0) (P := []) (M' := M) (L' := [some (.int p1), some (.int p2), some (.int p3)]) (st' := [.int p2, .int p1]) (pc' := 2) kX4_in_0 rfl trivial rfl ?_
  refine Gx_icmp_lt (off := 12) (tgt := 14) (by decide +kernel) (by decide) (fun z => ?_) (fun z => ?_)
  · have h := h.1 z
    refine Gx_mask [false, false, false] (L' := [none, none, none]) rfl ?_
    exact tX4_in_14  M h
  · have h := h.2 z
    refine Gx_run (es := eX4_in_5) (P := []) (M' := M) (L' := [some (.int p1), some (.int p2), some (.int p3)]) (st' := [.int p3, .int p1]) (pc' := 7) kX4_in_5 rfl trivial rfl ?_
    refine Gx_icmp_gt (off := 7) (tgt := 14) (by decide +kernel) (by decide) (fun z => ?_) (fun z => ?_)
    · have h := h.1 z
      refine Gx_mask [false, false, false] (L' := [none, none, none]) rfl ?_
      exact tX4_in_14  M h
    · have h := h.2 z
      refine Gx_run (es := eX4_in_10) (P := []) (M' := M) (L' := [some (.int p1), some (.int p2), some (.int p3)]) (st' := [.int (1 : Int32)]) (pc' := 11) kX4_in_10 rfl trivial rfl ?_
      refine Gx_goto (off := 4) (tgt := 15) (by decide +kernel) (by decide) ?_
      refine Gx_mask [false, false, false] (L' := [none, none, none]) rfl ?_
      exact tX4_in_15  M (1 : Int32) h
def eX4_inodes_0 : List xI := [(.iconst 0, 1, 0, 0, (0)), (.istore_n 1, 1, 0, 0, 0), (.iconst 0, 1, 0, 0, (0)), (.istore_n 2, 1, 0, 0, 0)]
theorem kX4_inodes_0 : xcode (xmb mX4_inodes) (xmo mX4_inodes) 0 eX4_inodes_0 = true := by decide +kernel
def eX4_inodes_4 : List xI := [(.iload_n 2, 1, 0, 0, 0), (.bipush 10, 2, 0, 0, (10))]
theorem kX4_inodes_4 : xcode (xmb mX4_inodes) (xmo mX4_inodes) 4 eX4_inodes_4 = true := by decide +kernel
def eX4_inodes_35 : List xI := [(.iload_n 1, 1, 0, 0, 0)]
theorem kX4_inodes_35 : xcode (xmb mX4_inodes) (xmo mX4_inodes) 35 eX4_inodes_35 = true := by decide +kernel
def eX4_inodes_10 : List xI := [(.iload_n 1, 1, 0, 0, 0), (.aload_n 0, 1, 0, 0, 0), (.getfield 7, 3, 4, 1, 0), (.iconst 0, 1, 0, 0, (0)), (.iload_n 2, 1, 0, 0, 0), (.iadd, 1, 0, 0, 0), (.iaload, 1, 0, 0, 0)]
theorem kX4_inodes_10 : xcode (xmb mX4_inodes) (xmo mX4_inodes) 10 eX4_inodes_10 = true := by decide +kernel
def eX4_inodes_26 : List xI := [(.iconst 1, 1, 0, 0, (1))]
theorem kX4_inodes_26 : xcode (xmb mX4_inodes) (xmo mX4_inodes) 26 eX4_inodes_26 = true := by decide +kernel
def eX4_inodes_27 : List xI := [(.iadd, 1, 0, 0, 0), (.istore_n 1, 1, 0, 0, 0), (.iinc 2 1, 3, 0, 0, (1))]
theorem kX4_inodes_27 : xcode (xmb mX4_inodes) (xmo mX4_inodes) 27 eX4_inodes_27 = true := by decide +kernel
def eX4_inodes_22 : List xI := [(.iconst 0, 1, 0, 0, (0))]
theorem kX4_inodes_22 : xcode (xmb mX4_inodes) (xmo mX4_inodes) 22 eX4_inodes_22 = true := by decide +kernel
def wX4_inodes_27 (Q : Int32 → xM → Prop) (k4 : xM → Int32 → Int32 → Prop) (M : xM) (a2 : Int32) (s0 : Int32) (s1 : Int32) : Prop :=
    k4 M (s1 + s0) (a2 + (1 : Int32))
set_option maxHeartbeats 4000000 in
set_option maxRecDepth 100000 in
theorem tX4_inodes_27 {l : Launch} {E : xE} {Q : Int32 → xM → Prop} {k4 : xM → Int32 → Int32 → Prop} (hk4 : ∀ (M : xM) (a1 : Int32) (a2 : Int32), k4 M a1 a2 → Gx l E mX4_inodes (xRi Q) 4 M [some (.ref 50), some (.int a1), some (.int a2)] []) (M : xM) (a2 : Int32) (s0 : Int32) (s1 : Int32) (h : wX4_inodes_27  Q k4 M a2 s0 s1) : Gx l E mX4_inodes (xRi Q) 27 M [some (.ref 50), none, some (.int a2)] [.int s0, .int s1] := by
  unfold wX4_inodes_27 at h
  refine Gx_run (es := eX4_inodes_27) (P := []) (M' := M) (L' := [some (.ref 50), some (.int (s1 + s0)), some (.int (a2 + (1 : Int32)))]) (st' := []) (pc' := 32) kX4_inodes_27 rfl trivial rfl ?_
  refine Gx_goto (off := -28) (tgt := 4) (by decide +kernel) (by decide) ?_
  refine Gx_mask [true, true, true] (L' := [some (.ref 50), some (.int (s1 + s0)), some (.int (a2 + (1 : Int32)))]) rfl ?_
  exact hk4 M (s1 + s0) (a2 + (1 : Int32)) h
def lX4_inodes_4 (Q : Int32 → xM → Prop) : Nat → xM → Int32 → Int32 → Prop
  | 0 => fun _ _ _ => False
  | n + 1 => let k4 := lX4_inodes_4  Q n; fun M a1 a2 =>
    ((((10 : Int32) ≤ a2) → (Q a1 M)) ∧ ((¬ (10 : Int32) ≤ a2) → ((vp_in ((0 : Int32) + a2) 147) ∧ (((¬ (M 51 ((0 : Int32) + a2).toNatClampNeg) = 0) → (wX4_inodes_27  Q k4 M a2 (1 : Int32) a1)) ∧ (((M 51 ((0 : Int32) + a2).toNatClampNeg) = 0) → (wX4_inodes_27  Q k4 M a2 (0 : Int32) a1))))))
set_option maxHeartbeats 4000000 in
set_option maxRecDepth 100000 in
theorem tX4_inodes_4 {l : Launch} {E : xE} {Q : Int32 → xM → Prop} (n : Nat) : ∀ (M : xM) (a1 : Int32) (a2 : Int32), lX4_inodes_4  Q n M a1 a2 → Gx l E mX4_inodes (xRi Q) 4 M [some (.ref 50), some (.int a1), some (.int a2)] [] := by
  induction n with
  | zero => intro M a1 a2 h; exact h.elim
  | succ n hk4 =>
      intro M a1 a2 h
      unfold lX4_inodes_4 at h
      dsimp only at h
      refine Gx_run (es := eX4_inodes_4) (P := []) (M' := M) (L' := [some (.ref 50), some (.int a1), some (.int a2)]) (st' := [.int (10 : Int32), .int a2]) (pc' := 7) kX4_inodes_4 rfl trivial rfl ?_
      refine Gx_icmp_ge (off := 28) (tgt := 35) (by decide +kernel) (by decide) (fun z => ?_) (fun z => ?_)
      · have h := h.1 z
        refine Gx_run (es := eX4_inodes_35) (P := []) (M' := M) (L' := [some (.ref 50), some (.int a1), some (.int a2)]) (st' := [.int a1]) (pc' := 36) kX4_inodes_35 rfl trivial rfl ?_
        exact Gx_iret (by decide +kernel) rfl rfl ⟨_, rfl, h⟩
      · have h := h.2 z
        obtain ⟨g10_0, h⟩ := h
        refine Gx_run (es := eX4_inodes_10) (P := [xkd 50 = 4, xkd 51 = 5, vp_in ((0 : Int32) + a2) (xln 51)]) (M' := M) (L' := [some (.ref 50), some (.int a1), some (.int a2)]) (st' := [.int (M 51 ((0 : Int32) + a2).toNatClampNeg), .int a1]) (pc' := 19) kX4_inodes_10 rfl ⟨rfl, rfl, g10_0, trivial⟩ rfl ?_
        refine Gx_if_ne (off := 7) (tgt := 26) (by decide +kernel) (by decide) (fun z => ?_) (fun z => ?_)
        · have h := h.1 z
          refine Gx_run (es := eX4_inodes_26) (P := []) (M' := M) (L' := [some (.ref 50), some (.int a1), some (.int a2)]) (st' := [.int (1 : Int32), .int a1]) (pc' := 27) kX4_inodes_26 rfl trivial rfl ?_
          refine Gx_mask [true, false, true] (L' := [some (.ref 50), none, some (.int a2)]) rfl ?_
          exact tX4_inodes_27  hk4 M a2 (1 : Int32) a1 h
        · have h := h.2 z
          refine Gx_run (es := eX4_inodes_22) (P := []) (M' := M) (L' := [some (.ref 50), some (.int a1), some (.int a2)]) (st' := [.int (0 : Int32), .int a1]) (pc' := 23) kX4_inodes_22 rfl trivial rfl ?_
          refine Gx_goto (off := 4) (tgt := 27) (by decide +kernel) (by decide) ?_
          refine Gx_mask [true, false, true] (L' := [some (.ref 50), none, some (.int a2)]) rfl ?_
          exact tX4_inodes_27  hk4 M a2 (0 : Int32) a1 h
def wX4_inodes (M : xM) (Q : Int32 → xM → Prop) : Prop :=
    (∃ n : Nat, lX4_inodes_4  Q n M (0 : Int32) (0 : Int32))
set_option maxHeartbeats 4000000 in
set_option maxRecDepth 100000 in
theorem tX4_inodes {l : Launch} {E : xE} {M : xM} {Q : Int32 → xM → Prop} (h : wX4_inodes M  Q) : Ct l E mX4_inodes [.ref 50] M (xRi Q) := by
  refine Ct_of (by decide +kernel) rfl (Nat.le_of_ble_eq_true rfl) ?_
  unfold wX4_inodes at h
  show Gx l E mX4_inodes (xRi Q) 0 M [some (.ref 50), none, none] []
  refine Gx_run (es := eX4_inodes_0) (P := []) (M' := M) (L' := [some (.ref 50), some (.int (0 : Int32)), some (.int (0 : Int32))]) (st' := []) (pc' := 4) kX4_inodes_0 rfl trivial rfl ?_
  refine Gx_mask [true, true, true] (L' := [some (.ref 50), some (.int (0 : Int32)), some (.int (0 : Int32))]) rfl ?_
  obtain ⟨n, h⟩ := h
  exact tX4_inodes_4  n M (0 : Int32) (0 : Int32) h
def eX4_isDirectory_0 : List xI := [(.aload_n 0, 1, 0, 0, 0), (.getfield 7, 3, 4, 1, 0), (.iconst 0, 1, 0, 0, (0)), (.iload_n 1, 1, 0, 0, 0), (.iadd, 1, 0, 0, 0), (.iaload, 1, 0, 0, 0), (.iconst 2, 1, 0, 0, (2))]
theorem kX4_isDirectory_0 : xcode (xmb mX4_isDirectory) (xmo mX4_isDirectory) 0 eX4_isDirectory_0 = true := by decide +kernel
def eX4_isDirectory_24 : List xI := [(.iconst 1, 1, 0, 0, (1))]
theorem kX4_isDirectory_24 : xcode (xmb mX4_isDirectory) (xmo mX4_isDirectory) 24 eX4_isDirectory_24 = true := by decide +kernel
def eX4_isDirectory_12 : List xI := [(.aload_n 0, 1, 0, 0, 0), (.getfield 7, 3, 4, 1, 0), (.iconst 0, 1, 0, 0, (0)), (.iload_n 1, 1, 0, 0, 0), (.iadd, 1, 0, 0, 0), (.iaload, 1, 0, 0, 0), (.iconst 5, 1, 0, 0, (5))]
theorem kX4_isDirectory_12 : xcode (xmb mX4_isDirectory) (xmo mX4_isDirectory) 12 eX4_isDirectory_12 = true := by decide +kernel
def eX4_isDirectory_28 : List xI := [(.iconst 0, 1, 0, 0, (0))]
theorem kX4_isDirectory_28 : xcode (xmb mX4_isDirectory) (xmo mX4_isDirectory) 28 eX4_isDirectory_28 = true := by decide +kernel
def wX4_isDirectory_29 (p1 : Int32) (Q : Int32 → xM → Prop) (M : xM) (s0 : Int32) : Prop :=
    (s0 &&& 1 = s0) ∧ Q s0 M
set_option maxHeartbeats 4000000 in
set_option maxRecDepth 100000 in
theorem tX4_isDirectory_29 {l : Launch} {E : xE} {p1 : Int32} {Q : Int32 → xM → Prop} (M : xM) (s0 : Int32) (h : wX4_isDirectory_29 p1 Q M s0) : Gx l E mX4_isDirectory (xRi Q) 29 M [none, none] [.int s0] := by
  unfold wX4_isDirectory_29 at h
  exact Gx_iret (by decide +kernel) rfl (congrArg Value.int h.1) ⟨_, rfl, h.2⟩
def wX4_isDirectory_24 (p1 : Int32) (Q : Int32 → xM → Prop) (M : xM) : Prop :=
    wX4_isDirectory_29 p1 Q M (1 : Int32)
set_option maxHeartbeats 4000000 in
set_option maxRecDepth 100000 in
theorem tX4_isDirectory_24 {l : Launch} {E : xE} {p1 : Int32} {Q : Int32 → xM → Prop} (M : xM) (h : wX4_isDirectory_24 p1 Q M ) : Gx l E mX4_isDirectory (xRi Q) 24 M [none, none] [] := by
  unfold wX4_isDirectory_24 at h
  refine Gx_run (es := eX4_isDirectory_24) (P := []) (M' := M) (L' := [none, none]) (st' := [.int (1 : Int32)]) (pc' := 25) kX4_isDirectory_24 rfl trivial rfl ?_
  refine Gx_goto (off := 4) (tgt := 29) (by decide +kernel) (by decide) ?_
  refine Gx_mask [false, false] (L' := [none, none]) rfl ?_
  exact tX4_isDirectory_29  M (1 : Int32) h
def wX4_isDirectory (M : xM) (p1 : Int32) (Q : Int32 → xM → Prop) : Prop :=
    (vp_in ((0 : Int32) + p1) 147) ∧ ((((M 51 ((0 : Int32) + p1).toNatClampNeg) = (2 : Int32)) → (wX4_isDirectory_24 p1 Q M)) ∧ ((¬ (M 51 ((0 : Int32) + p1).toNatClampNeg) = (2 : Int32)) → ((vp_in ((0 : Int32) + p1) 147) ∧ (((¬ (M 51 ((0 : Int32) + p1).toNatClampNeg) = (5 : Int32)) → (wX4_isDirectory_29 p1 Q M (0 : Int32))) ∧ (((M 51 ((0 : Int32) + p1).toNatClampNeg) = (5 : Int32)) → (wX4_isDirectory_24 p1 Q M))))))
set_option maxHeartbeats 4000000 in
set_option maxRecDepth 100000 in
theorem tX4_isDirectory {l : Launch} {E : xE} {M : xM} {p1 : Int32} {Q : Int32 → xM → Prop} (h : wX4_isDirectory M p1 Q) : Ct l E mX4_isDirectory [.ref 50, .int p1] M (xRi Q) := by
  refine Ct_of (by decide +kernel) rfl (Nat.le_of_ble_eq_true rfl) ?_
  unfold wX4_isDirectory at h
  show Gx l E mX4_isDirectory (xRi Q) 0 M [some (.ref 50), some (.int p1)] []
  obtain ⟨g0_0, h⟩ := h
  refine Gx_run (es := eX4_isDirectory_0) (P := [xkd 50 = 4, xkd 51 = 5, vp_in ((0 : Int32) + p1) (xln 51)]) (M' := M) (L' := [some (.ref 50), some (.int p1)]) (st' := [.int (2 : Int32), .int (M 51 ((0 : Int32) + p1).toNatClampNeg)]) (pc' := 9) kX4_isDirectory_0 rfl ⟨rfl, rfl, g0_0, trivial⟩ rfl ?_
  refine Gx_icmp_eq (off := 15) (tgt := 24) (by decide +kernel) (by decide) (fun z => ?_) (fun z => ?_)
  · have h := h.1 z
    refine Gx_mask [false, false] (L' := [none, none]) rfl ?_
    exact tX4_isDirectory_24  M h
  · have h := h.2 z
    obtain ⟨g12_0, h⟩ := h
    refine Gx_run (es := eX4_isDirectory_12) (P := [xkd 50 = 4, xkd 51 = 5, vp_in ((0 : Int32) + p1) (xln 51)]) (M' := M) (L' := [some (.ref 50), some (.int p1)]) (st' := [.int (5 : Int32), .int (M 51 ((0 : Int32) + p1).toNatClampNeg)]) (pc' := 21) kX4_isDirectory_12 rfl ⟨rfl, rfl, g12_0, trivial⟩ rfl ?_
    refine Gx_icmp_ne (off := 7) (tgt := 28) (by decide +kernel) (by decide) (fun z => ?_) (fun z => ?_)
    · have h := h.1 z
      refine Gx_run (es := eX4_isDirectory_28) (P := []) (M' := M) (L' := [some (.ref 50), some (.int p1)]) (st' := [.int (0 : Int32)]) (pc' := 29) kX4_isDirectory_28 rfl trivial rfl ?_
      refine Gx_mask [false, false] (L' := [none, none]) rfl ?_
      exact tX4_isDirectory_29  M (0 : Int32) h
    · have h := h.2 z
      refine Gx_mask [false, false] (L' := [none, none]) rfl ?_
      exact tX4_isDirectory_24  M h
def eX4_isEntryTo_0 : List xI := [(.aload_n 0, 1, 0, 0, 0), (.getfield 7, 3, 4, 1, 0), (.bipush 60, 2, 0, 0, (60)), (.iload_n 1, 1, 0, 0, 0), (.iadd, 1, 0, 0, 0), (.iaload, 1, 0, 0, 0), (.iconst (-1), 1, 0, 0, (-1))]
theorem kX4_isEntryTo_0 : xcode (xmb mX4_isEntryTo) (xmo mX4_isEntryTo) 0 eX4_isEntryTo_0 = true := by decide +kernel
def eX4_isEntryTo_33 : List xI := [(.iconst 0, 1, 0, 0, (0))]
theorem kX4_isEntryTo_33 : xcode (xmb mX4_isEntryTo) (xmo mX4_isEntryTo) 33 eX4_isEntryTo_33 = true := by decide +kernel
def eX4_isEntryTo_13 : List xI := [(.aload_n 0, 1, 0, 0, 0), (.getfield 7, 3, 4, 1, 0), (.bipush 60, 2, 0, 0, (60)), (.iload_n 1, 1, 0, 0, 0), (.iadd, 1, 0, 0, 0), (.iaload, 1, 0, 0, 0), (.bipush 26, 2, 0, 0, (26)), (.idiv, 1, 0, 0, 0), (.iload_n 2, 1, 0, 0, 0)]
theorem kX4_isEntryTo_13 : xcode (xmb mX4_isEntryTo) (xmo mX4_isEntryTo) 13 eX4_isEntryTo_13 = true := by decide +kernel
def eX4_isEntryTo_29 : List xI := [(.iconst 1, 1, 0, 0, (1))]
theorem kX4_isEntryTo_29 : xcode (xmb mX4_isEntryTo) (xmo mX4_isEntryTo) 29 eX4_isEntryTo_29 = true := by decide +kernel
def wX4_isEntryTo_34 (p1 : Int32) (p2 : Int32) (Q : Int32 → xM → Prop) (M : xM) (s0 : Int32) : Prop :=
    (s0 &&& 1 = s0) ∧ Q s0 M
set_option maxHeartbeats 4000000 in
set_option maxRecDepth 100000 in
theorem tX4_isEntryTo_34 {l : Launch} {E : xE} {p1 : Int32} {p2 : Int32} {Q : Int32 → xM → Prop} (M : xM) (s0 : Int32) (h : wX4_isEntryTo_34 p1 p2 Q M s0) : Gx l E mX4_isEntryTo (xRi Q) 34 M [none, none, none] [.int s0] := by
  unfold wX4_isEntryTo_34 at h
  exact Gx_iret (by decide +kernel) rfl (congrArg Value.int h.1) ⟨_, rfl, h.2⟩
def wX4_isEntryTo_33 (p1 : Int32) (p2 : Int32) (Q : Int32 → xM → Prop) (M : xM) : Prop :=
    wX4_isEntryTo_34 p1 p2 Q M (0 : Int32)
set_option maxHeartbeats 4000000 in
set_option maxRecDepth 100000 in
theorem tX4_isEntryTo_33 {l : Launch} {E : xE} {p1 : Int32} {p2 : Int32} {Q : Int32 → xM → Prop} (M : xM) (h : wX4_isEntryTo_33 p1 p2 Q M ) : Gx l E mX4_isEntryTo (xRi Q) 33 M [none, none, none] [] := by
  unfold wX4_isEntryTo_33 at h
  refine Gx_run (es := eX4_isEntryTo_33) (P := []) (M' := M) (L' := [none, none, none]) (st' := [.int (0 : Int32)]) (pc' := 34) kX4_isEntryTo_33 rfl trivial rfl ?_
  refine Gx_mask [false, false, false] (L' := [none, none, none]) rfl ?_
  exact tX4_isEntryTo_34  M (0 : Int32) h
def wX4_isEntryTo (M : xM) (p1 : Int32) (p2 : Int32) (Q : Int32 → xM → Prop) : Prop :=
    (vp_in ((60 : Int32) + p1) 147) ∧ ((((M 51 ((60 : Int32) + p1).toNatClampNeg) = (-1 : Int32)) → (wX4_isEntryTo_33 p1 p2 Q M)) ∧ ((¬ (M 51 ((60 : Int32) + p1).toNatClampNeg) = (-1 : Int32)) → ((vp_in ((60 : Int32) + p1) 147) ∧ (((¬ ((M 51 ((60 : Int32) + p1).toNatClampNeg) / (26 : Int32)) = p2) → (wX4_isEntryTo_33 p1 p2 Q M)) ∧ ((((M 51 ((60 : Int32) + p1).toNatClampNeg) / (26 : Int32)) = p2) → (wX4_isEntryTo_34 p1 p2 Q M (1 : Int32)))))))
set_option maxHeartbeats 4000000 in
set_option maxRecDepth 100000 in
theorem tX4_isEntryTo {l : Launch} {E : xE} {M : xM} {p1 : Int32} {p2 : Int32} {Q : Int32 → xM → Prop} (h : wX4_isEntryTo M p1 p2 Q) : Ct l E mX4_isEntryTo [.ref 50, .int p1, .int p2] M (xRi Q) := by
  refine Ct_of (by decide +kernel) rfl (Nat.le_of_ble_eq_true rfl) ?_
  unfold wX4_isEntryTo at h
  show Gx l E mX4_isEntryTo (xRi Q) 0 M [some (.ref 50), some (.int p1), some (.int p2)] []
  obtain ⟨g0_0, h⟩ := h
  refine Gx_run (es := eX4_isEntryTo_0) (P := [xkd 50 = 4, xkd 51 = 5, vp_in ((60 : Int32) + p1) (xln 51)]) (M' := M) (L' := [some (.ref 50), some (.int p1), some (.int p2)]) (st' := [.int (-1 : Int32), .int (M 51 ((60 : Int32) + p1).toNatClampNeg)]) (pc' := 10) kX4_isEntryTo_0 rfl ⟨rfl, rfl, g0_0, trivial⟩ rfl ?_
  refine Gx_icmp_eq (off := 23) (tgt := 33) (by decide +kernel) (by decide) (fun z => ?_) (fun z => ?_)
  · have h := h.1 z
    refine Gx_mask [false, false, false] (L' := [none, none, none]) rfl ?_
    exact tX4_isEntryTo_33  M h
  · have h := h.2 z
    obtain ⟨g13_0, h⟩ := h
    refine Gx_run (es := eX4_isEntryTo_13) (P := [xkd 50 = 4, xkd 51 = 5, vp_in ((60 : Int32) + p1) (xln 51), ¬ (26 : Int32) = 0]) (M' := M) (L' := [some (.ref 50), some (.int p1), some (.int p2)]) (st' := [.int p2, .int ((M 51 ((60 : Int32) + p1).toNatClampNeg) / (26 : Int32))]) (pc' := 26) kX4_isEntryTo_13 rfl ⟨rfl, rfl, g13_0, (by decide), trivial⟩ rfl ?_
    refine Gx_icmp_ne (off := 7) (tgt := 33) (by decide +kernel) (by decide) (fun z => ?_) (fun z => ?_)
    · have h := h.1 z
      refine Gx_mask [false, false, false] (L' := [none, none, none]) rfl ?_
      exact tX4_isEntryTo_33  M h
    · have h := h.2 z
      refine Gx_run (es := eX4_isEntryTo_29) (P := []) (M' := M) (L' := [some (.ref 50), some (.int p1), some (.int p2)]) (st' := [.int (1 : Int32)]) (pc' := 30) kX4_isEntryTo_29 rfl trivial rfl ?_
      refine Gx_goto (off := 4) (tgt := 34) (by decide +kernel) (by decide) ?_
      refine Gx_mask [false, false, false] (L' := [none, none, none]) rfl ?_
      exact tX4_isEntryTo_34  M (1 : Int32) h
