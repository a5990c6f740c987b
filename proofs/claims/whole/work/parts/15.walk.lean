/-! walks: X4_isNamedAhead, X4_isRefused, X4_isSharedAhead, X4_keeps, X4_leastName, X4_lists, X4_lowest, X4_manyOf, X4_must, X4_pointerOf, X4_pointersTo, X4_refused, X4_refusedLong, X4_slotOf -/
def eX4_isNamedAhead_0 : List xI := [(.iconst 0, 1, 0, 0, (0)), (.istore_n 3, 1, 0, 0, 0), (.iconst 0, 1, 0, 0, (0)), (.istore 4, 2, 0, 0, 0)]
theorem kX4_isNamedAhead_0 : xcode (xmb mX4_isNamedAhead) (xmo mX4_isNamedAhead) 0 eX4_isNamedAhead_0 = true := by decide +kernel
def eX4_isNamedAhead_5 : List xI := [(.iload 4, 2, 0, 0, 0), (.iload_n 2, 1, 0, 0, 0)]
theorem kX4_isNamedAhead_5 : xcode (xmb mX4_isNamedAhead) (xmo mX4_isNamedAhead) 5 eX4_isNamedAhead_5 = true := by decide +kernel
def eX4_isNamedAhead_84 : List xI := [(.iload_n 3, 1, 0, 0, 0)]
theorem kX4_isNamedAhead_84 : xcode (xmb mX4_isNamedAhead) (xmo mX4_isNamedAhead) 84 eX4_isNamedAhead_84 = true := by decide +kernel
def eX4_isNamedAhead_11 : List xI := [(.iload_n 3, 1, 0, 0, 0)]
theorem kX4_isNamedAhead_11 : xcode (xmb mX4_isNamedAhead) (xmo mX4_isNamedAhead) 11 eX4_isNamedAhead_11 = true := by decide +kernel
def eX4_isNamedAhead_72 : List xI := [(.iconst 1, 1, 0, 0, (1))]
theorem kX4_isNamedAhead_72 : xcode (xmb mX4_isNamedAhead) (xmo mX4_isNamedAhead) 72 eX4_isNamedAhead_72 = true := by decide +kernel
def eX4_isNamedAhead_77 : List xI := [(.istore_n 3, 1, 0, 0, 0), (.iinc 4 1, 3, 0, 0, (1))]
theorem kX4_isNamedAhead_77 : xcode (xmb mX4_isNamedAhead) (xmo mX4_isNamedAhead) 77 eX4_isNamedAhead_77 = true := by decide +kernel
def eX4_isNamedAhead_15 : List xI := [(.aload_n 0, 1, 0, 0, 0), (.getfield 7, 3, 4, 1, 0), (.bipush 60, 2, 0, 0, (60)), (.bipush 6, 2, 0, 0, (6)), (.iload_n 1, 1, 0, 0, 0), (.imul, 1, 0, 0, 0), (.iadd, 1, 0, 0, 0), (.iload 4, 2, 0, 0, 0), (.iadd, 1, 0, 0, 0), (.iaload, 1, 0, 0, 0), (.iconst (-1), 1, 0, 0, (-1))]
theorem kX4_isNamedAhead_15 : xcode (xmb mX4_isNamedAhead) (xmo mX4_isNamedAhead) 15 eX4_isNamedAhead_15 = true := by decide +kernel
def eX4_isNamedAhead_76 : List xI := [(.iconst 0, 1, 0, 0, (0))]
theorem kX4_isNamedAhead_76 : xcode (xmb mX4_isNamedAhead) (xmo mX4_isNamedAhead) 76 eX4_isNamedAhead_76 = true := by decide +kernel
def eX4_isNamedAhead_34 : List xI := [(.aload_n 0, 1, 0, 0, 0), (.getfield 7, 3, 4, 1, 0), (.bipush 60, 2, 0, 0, (60)), (.bipush 6, 2, 0, 0, (6)), (.iload_n 1, 1, 0, 0, 0), (.imul, 1, 0, 0, 0), (.iadd, 1, 0, 0, 0), (.iload 4, 2, 0, 0, 0), (.iadd, 1, 0, 0, 0), (.iaload, 1, 0, 0, 0), (.bipush 26, 2, 0, 0, (26)), (.irem, 1, 0, 0, 0), (.aload_n 0, 1, 0, 0, 0), (.getfield 7, 3, 4, 1, 0), (.bipush 60, 2, 0, 0, (60)), (.bipush 6, 2, 0, 0, (6)), (.iload_n 1, 1, 0, 0, 0), (.imul, 1, 0, 0, 0), (.iadd, 1, 0, 0, 0), (.iload_n 2, 1, 0, 0, 0), (.iadd, 1, 0, 0, 0), (.iaload, 1, 0, 0, 0), (.bipush 26, 2, 0, 0, (26)), (.irem, 1, 0, 0, 0)]
theorem kX4_isNamedAhead_34 : xcode (xmb mX4_isNamedAhead) (xmo mX4_isNamedAhead) 34 eX4_isNamedAhead_34 = true := by decide +kernel
def wX4_isNamedAhead_77 (p1 : Int32) (p2 : Int32) (Q : Int32 → xM → Prop) (k5 : xM → Int32 → Int32 → Prop) (M : xM) (a4 : Int32) (s0 : Int32) : Prop :=
    k5 M s0 (a4 + (1 : Int32))
set_option maxHeartbeats 4000000 in
set_option maxRecDepth 100000 in
theorem tX4_isNamedAhead_77 {l : Launch} {E : xE} {p1 : Int32} {p2 : Int32} {Q : Int32 → xM → Prop} {k5 : xM → Int32 → Int32 → Prop} (hk5 : ∀ (M : xM) (a3 : Int32) (a4 : Int32), k5 M a3 a4 → Gx l E mX4_isNamedAhead (xRi Q) 5 M [some (.ref 50), some (.int p1), some (.int p2), some (.int a3), some (.int a4)] []) (M : xM) (a4 : Int32) (s0 : Int32) (h : wX4_isNamedAhead_77 p1 p2 Q k5 M a4 s0) : Gx l E mX4_isNamedAhead (xRi Q) 77 M [some (.ref 50), some (.int p1), some (.int p2), none, some (.int a4)] [.int s0] := by
  unfold wX4_isNamedAhead_77 at h
  refine Gx_run (es := eX4_isNamedAhead_77) (P := []) (M' := M) (L' := [some (.ref 50), some (.int p1), some (.int p2), some (.int s0), some (.int (a4 + (1 : Int32)))]) (st' := []) (pc' := 81) kX4_isNamedAhead_77 rfl trivial rfl ?_
  refine Gx_goto (off := -76) (tgt := 5) (by decide +kernel) (by decide) ?_
  refine Gx_mask [true, true, true, true, true] (L' := [some (.ref 50), some (.int p1), some (.int p2), some (.int s0), some (.int (a4 + (1 : Int32)))]) rfl ?_
  exact hk5 M s0 (a4 + (1 : Int32)) h
def wX4_isNamedAhead_72 (p1 : Int32) (p2 : Int32) (Q : Int32 → xM → Prop) (k5 : xM → Int32 → Int32 → Prop) (M : xM) (a4 : Int32) : Prop :=
    wX4_isNamedAhead_77 p1 p2 Q k5 M a4 (1 : Int32)
set_option maxHeartbeats 4000000 in
set_option maxRecDepth 100000 in
theorem tX4_isNamedAhead_72 {l : Launch} {E : xE} {p1 : Int32} {p2 : Int32} {Q : Int32 → xM → Prop} {k5 : xM → Int32 → Int32 → Prop} (hk5 : ∀ (M : xM) (a3 : Int32) (a4 : Int32), k5 M a3 a4 → Gx l E mX4_isNamedAhead (xRi Q) 5 M [some (.ref 50), some (.int p1), some (.int p2), some (.int a3), some (.int a4)] []) (M : xM) (a4 : Int32) (h : wX4_isNamedAhead_72 p1 p2 Q k5 M a4) : Gx l E mX4_isNamedAhead (xRi Q) 72 M [some (.ref 50), some (.int p1), some (.int p2), none, some (.int a4)] [] := by
  unfold wX4_isNamedAhead_72 at h
  refine Gx_run (es := eX4_isNamedAhead_72) (P := []) (M' := M) (L' := [some (.ref 50), some (.int p1), some (.int p2), none, some (.int a4)]) (st' := [.int (1 : Int32)]) (pc' := 73) kX4_isNamedAhead_72 rfl trivial rfl ?_
  refine Gx_goto (off := 4) (tgt := 77) (by decide +kernel) (by decide) ?_
  refine Gx_mask [true, true, true, false, true] (L' := [some (.ref 50), some (.int p1), some (.int p2), none, some (.int a4)]) rfl ?_
  exact tX4_isNamedAhead_77  hk5 M a4 (1 : Int32) h
def wX4_isNamedAhead_76 (p1 : Int32) (p2 : Int32) (Q : Int32 → xM → Prop) (k5 : xM → Int32 → Int32 → Prop) (M : xM) (a4 : Int32) : Prop :=
    wX4_isNamedAhead_77 p1 p2 Q k5 M a4 (0 : Int32)
set_option maxHeartbeats 4000000 in
set_option maxRecDepth 100000 in
theorem tX4_isNamedAhead_76 {l : Launch} {E : xE} {p1 : Int32} {p2 : Int32} {Q : Int32 → xM → Prop} {k5 : xM → Int32 → Int32 → Prop} (hk5 : ∀ (M : xM) (a3 : Int32) (a4 : Int32), k5 M a3 a4 → Gx l E mX4_isNamedAhead (xRi Q) 5 M [some (.ref 50), some (.int p1), some (.int p2), some (.int a3), some (.int a4)] []) (M : xM) (a4 : Int32) (h : wX4_isNamedAhead_76 p1 p2 Q k5 M a4) : Gx l E mX4_isNamedAhead (xRi Q) 76 M [some (.ref 50), some (.int p1), some (.int p2), none, some (.int a4)] [] := by
  unfold wX4_isNamedAhead_76 at h
  refine Gx_run (es := eX4_isNamedAhead_76) (P := []) (M' := M) (L' := [some (.ref 50), some (.int p1), some (.int p2), none, some (.int a4)]) (st' := [.int (0 : Int32)]) (pc' := 77) kX4_isNamedAhead_76 rfl trivial rfl ?_
  refine Gx_mask [true, true, true, false, true] (L' := [some (.ref 50), some (.int p1), some (.int p2), none, some (.int a4)]) rfl ?_
  exact tX4_isNamedAhead_77  hk5 M a4 (0 : Int32) h
def lX4_isNamedAhead_5 (p1 : Int32) (p2 : Int32) (Q : Int32 → xM → Prop) : Nat → xM → Int32 → Int32 → Prop
  | 0 => fun _ _ _ => False
  | n + 1 => let k5 := lX4_isNamedAhead_5 p1 p2 Q n; fun M a3 a4 =>
    (((p2 ≤ a4) → ((a3 &&& 1 = a3) ∧ Q a3 M)) ∧ ((¬ p2 ≤ a4) → ((((¬ a3 = 0) → (wX4_isNamedAhead_72 p1 p2 Q k5 M a4)) ∧ ((a3 = 0) → ((vp_in (((60 : Int32) + ((6 : Int32) * p1)) + a4) 147) ∧ ((((M 51 (((60 : Int32) + ((6 : Int32) * p1)) + a4).toNatClampNeg) = (-1 : Int32)) → (wX4_isNamedAhead_76 p1 p2 Q k5 M a4)) ∧ ((¬ (M 51 (((60 : Int32) + ((6 : Int32) * p1)) + a4).toNatClampNeg) = (-1 : Int32)) → ((vp_in (((60 : Int32) + ((6 : Int32) * p1)) + a4) 147) ∧ (vp_in (((60 : Int32) + ((6 : Int32) * p1)) + p2) 147) ∧ (((¬ ((M 51 (((60 : Int32) + ((6 : Int32) * p1)) + a4).toNatClampNeg) - (M 51 (((60 : Int32) + ((6 : Int32) * p1)) + a4).toNatClampNeg) / (26 : Int32) * (26 : Int32)) = ((M 51 (((60 : Int32) + ((6 : Int32) * p1)) + p2).toNatClampNeg) - (M 51 (((60 : Int32) + ((6 : Int32) * p1)) + p2).toNatClampNeg) / (26 : Int32) * (26 : Int32))) → (wX4_isNamedAhead_76 p1 p2 Q k5 M a4)) ∧ ((((M 51 (((60 : Int32) + ((6 : Int32) * p1)) + a4).toNatClampNeg) - (M 51 (((60 : Int32) + ((6 : Int32) * p1)) + a4).toNatClampNeg) / (26 : Int32) * (26 : Int32)) = ((M 51 (((60 : Int32) + ((6 : Int32) * p1)) + p2).toNatClampNeg) - (M 51 (((60 : Int32) + ((6 : Int32) * p1)) + p2).toNatClampNeg) / (26 : Int32) * (26 : Int32))) → (wX4_isNamedAhead_72 p1 p2 Q k5 M a4))))))))))))
set_option maxHeartbeats 4000000 in
set_option maxRecDepth 100000 in
theorem tX4_isNamedAhead_5 {l : Launch} {E : xE} {p1 : Int32} {p2 : Int32} {Q : Int32 → xM → Prop} (n : Nat) : ∀ (M : xM) (a3 : Int32) (a4 : Int32), lX4_isNamedAhead_5 p1 p2 Q n M a3 a4 → Gx l E mX4_isNamedAhead (xRi Q) 5 M [some (.ref 50), some (.int p1), some (.int p2), some (.int a3), some (.int a4)] [] := by
  induction n with
  | zero => intro M a3 a4 h; exact h.elim
  | succ n hk5 =>
      intro M a3 a4 h
      unfold lX4_isNamedAhead_5 at h
      dsimp only at h
      refine Gx_run (es := eX4_isNamedAhead_5) (P := []) (M' := M) (L' := [some (.ref 50), some (.int p1), some (.int p2), some (.int a3), some (.int a4)]) (st' := [.int p2, .int a4]) (pc' := 8) kX4_isNamedAhead_5 rfl trivial rfl ?_
      refine Gx_icmp_ge (off := 76) (tgt := 84) (by decide +kernel) (by decide) (fun z => ?_) (fun z => ?_)
      · have h := h.1 z
        refine Gx_run (es := eX4_isNamedAhead_84) (P := []) (M' := M) (L' := [some (.ref 50), some (.int p1), some (.int p2), some (.int a3), some (.int a4)]) (st' := [.int a3]) (pc' := 85) kX4_isNamedAhead_84 rfl trivial rfl ?_
        exact Gx_iret (by decide +kernel) rfl (congrArg Value.int h.1) ⟨_, rfl, h.2⟩
      · have h := h.2 z
        refine Gx_run (es := eX4_isNamedAhead_11) (P := []) (M' := M) (L' := [some (.ref 50), some (.int p1), some (.int p2), some (.int a3), some (.int a4)]) (st' := [.int a3]) (pc' := 12) kX4_isNamedAhead_11 rfl trivial rfl ?_
        refine Gx_if_ne (off := 60) (tgt := 72) (by decide +kernel) (by decide) (fun z => ?_) (fun z => ?_)
        · have h := h.1 z
          refine Gx_mask [true, true, true, false, true] (L' := [some (.ref 50), some (.int p1), some (.int p2), none, some (.int a4)]) rfl ?_
          exact tX4_isNamedAhead_72  hk5 M a4 h
        · have h := h.2 z
          obtain ⟨g15_0, h⟩ := h
          refine Gx_run (es := eX4_isNamedAhead_15) (P := [xkd 50 = 4, xkd 51 = 5, vp_in (((60 : Int32) + ((6 : Int32) * p1)) + a4) (xln 51)]) (M' := M) (L' := [some (.ref 50), some (.int p1), some (.int p2), some (.int a3), some (.int a4)]) (st' := [.int (-1 : Int32), .int (M 51 (((60 : Int32) + ((6 : Int32) * p1)) + a4).toNatClampNeg)]) (pc' := 31) kX4_isNamedAhead_15 rfl ⟨rfl, rfl, g15_0, trivial⟩ rfl ?_
          refine Gx_icmp_eq (off := 45) (tgt := 76) (by decide +kernel) (by decide) (fun z => ?_) (fun z => ?_)
          · have h := h.1 z
            refine Gx_mask [true, true, true, false, true] (L' := [some (.ref 50), some (.int p1), some (.int p2), none, some (.int a4)]) rfl ?_
            exact tX4_isNamedAhead_76  hk5 M a4 h
          · have h := h.2 z
            obtain ⟨g34_0, g34_1, h⟩ := h
            refine Gx_run (es := eX4_isNamedAhead_34) (P := [xkd 50 = 4, xkd 51 = 5, vp_in (((60 : Int32) + ((6 : Int32) * p1)) + a4) (xln 51), ¬ (26 : Int32) = 0, xkd 50 = 4, xkd 51 = 5, vp_in (((60 : Int32) + ((6 : Int32) * p1)) + p2) (xln 51), ¬ (26 : Int32) = 0]) (M' := M) (L' := [some (.ref 50), some (.int p1), some (.int p2), some (.int a3), some (.int a4)]) (st' := [.int ((M 51 (((60 : Int32) + ((6 : Int32) * p1)) + p2).toNatClampNeg) - (M 51 (((60 : Int32) + ((6 : Int32) * p1)) + p2).toNatClampNeg) / (26 : Int32) * (26 : Int32)), .int ((M 51 (((60 : Int32) + ((6 : Int32) * p1)) + a4).toNatClampNeg) - (M 51 (((60 : Int32) + ((6 : Int32) * p1)) + a4).toNatClampNeg) / (26 : Int32) * (26 : Int32))]) (pc' := 69) kX4_isNamedAhead_34 rfl ⟨rfl, rfl, g34_0, (by decide), rfl, rfl, g34_1, (by decide), trivial⟩ rfl ?_
            refine Gx_icmp_ne (off := 7) (tgt := 76) (by decide +kernel) (by decide) (fun z => ?_) (fun z => ?_)
            · have h := h.1 z
              refine Gx_mask [true, true, true, false, true] (L' := [some (.ref 50), some (.int p1), some (.int p2), none, some (.int a4)]) rfl ?_
              exact tX4_isNamedAhead_76  hk5 M a4 h
            · have h := h.2 z
              refine Gx_mask [true, true, true, false, true] (L' := [some (.ref 50), some (.int p1), some (.int p2), none, some (.int a4)]) rfl ?_
              exact tX4_isNamedAhead_72  hk5 M a4 h
def wX4_isNamedAhead (M : xM) (p1 : Int32) (p2 : Int32) (Q : Int32 → xM → Prop) : Prop :=
    (∃ n : Nat, lX4_isNamedAhead_5 p1 p2 Q n M (0 : Int32) (0 : Int32))
set_option maxHeartbeats 4000000 in
set_option maxRecDepth 100000 in
theorem tX4_isNamedAhead {l : Launch} {E : xE} {M : xM} {p1 : Int32} {p2 : Int32} {Q : Int32 → xM → Prop} (h : wX4_isNamedAhead M p1 p2 Q) : Ct l E mX4_isNamedAhead [.ref 50, .int p1, .int p2] M (xRi Q) := by
  refine Ct_of (by decide +kernel) rfl (Nat.le_of_ble_eq_true rfl) ?_
  unfold wX4_isNamedAhead at h
  show Gx l E mX4_isNamedAhead (xRi Q) 0 M [some (.ref 50), some (.int p1), some (.int p2), none, none] []
  refine Gx_run (es := eX4_isNamedAhead_0) (P := []) (M' := M) (L' := [some (.ref 50), some (.int p1), some (.int p2), some (.int (0 : Int32)), some (.int (0 : Int32))]) (st' := []) (pc' := 5) kX4_isNamedAhead_0 rfl trivial rfl ?_
  refine Gx_mask [true, true, true, true, true] (L' := [some (.ref 50), some (.int p1), some (.int p2), some (.int (0 : Int32)), some (.int (0 : Int32))]) rfl ?_
  obtain ⟨n, h⟩ := h
  exact tX4_isNamedAhead_5  n M (0 : Int32) (0 : Int32) h
def eX4_isRefused_0 : List xI := [(.aload_n 0, 1, 0, 0, 0), (.getfield 7, 3, 4, 1, 0), (.sipush 146, 3, 0, 0, (146)), (.iaload, 1, 0, 0, 0), (.iload_n 1, 1, 0, 0, 0), (.ishr, 1, 0, 0, 0), (.iconst 1, 1, 0, 0, (1)), (.iand, 1, 0, 0, 0), (.iconst 1, 1, 0, 0, (1))]
theorem kX4_isRefused_0 : xcode (xmb mX4_isRefused) (xmo mX4_isRefused) 0 eX4_isRefused_0 = true := by decide +kernel
def eX4_isRefused_20 : List xI := [(.iconst 0, 1, 0, 0, (0))]
theorem kX4_isRefused_20 : xcode (xmb mX4_isRefused) (xmo mX4_isRefused) 20 eX4_isRefused_20 = true := by decide +kernel
def eX4_isRefused_16 : List xI := [(.iconst 1, 1, 0, 0, (1))]
theorem kX4_isRefused_16 : xcode (xmb mX4_isRefused) (xmo mX4_isRefused) 16 eX4_isRefused_16 = true := by decide +kernel
def wX4_isRefused_21 (p1 : Int32) (Q : Int32 → xM → Prop) (M : xM) (s0 : Int32) : Prop :=
    (s0 &&& 1 = s0) ∧ Q s0 M
set_option maxHeartbeats 4000000 in
set_option maxRecDepth 100000 in
theorem tX4_isRefused_21 {l : Launch} {E : xE} {p1 : Int32} {Q : Int32 → xM → Prop} (M : xM) (s0 : Int32) (h : wX4_isRefused_21 p1 Q M s0) : Gx l E mX4_isRefused (xRi Q) 21 M [none, none] [.int s0] := by
  unfold wX4_isRefused_21 at h
  exact Gx_iret (by decide +kernel) rfl (congrArg Value.int h.1) ⟨_, rfl, h.2⟩
def wX4_isRefused (M : xM) (p1 : Int32) (Q : Int32 → xM → Prop) : Prop :=
    (vp_in (146 : Int32) 147) ∧ (((¬ (((M 51 (146 : Int32).toNatClampNeg) >>> (p1 &&& 31)) &&& (1 : Int32)) = (1 : Int32)) → (wX4_isRefused_21 p1 Q M (0 : Int32))) ∧ (((((M 51 (146 : Int32).toNatClampNeg) >>> (p1 &&& 31)) &&& (1 : Int32)) = (1 : Int32)) → (wX4_isRefused_21 p1 Q M (1 : Int32))))
set_option maxHeartbeats 4000000 in
set_option maxRecDepth 100000 in
theorem tX4_isRefused {l : Launch} {E : xE} {M : xM} {p1 : Int32} {Q : Int32 → xM → Prop} (h : wX4_isRefused M p1 Q) : Ct l E mX4_isRefused [.ref 50, .int p1] M (xRi Q) := by
  refine Ct_of (by decide +kernel) rfl (Nat.le_of_ble_eq_true rfl) ?_
  unfold wX4_isRefused at h
  show Gx l E mX4_isRefused (xRi Q) 0 M [some (.ref 50), some (.int p1)] []
  obtain ⟨g0_0, h⟩ := h
  refine Gx_run (es := eX4_isRefused_0) (P := [xkd 50 = 4, xkd 51 = 5, vp_in (146 : Int32) (xln 51)]) (M' := M) (L' := [some (.ref 50), some (.int p1)]) (st' := [.int (1 : Int32), .int (((M 51 (146 : Int32).toNatClampNeg) >>> (p1 &&& 31)) &&& (1 : Int32))]) (pc' := 13) kX4_isRefused_0 rfl ⟨rfl, rfl, g0_0, trivial⟩ rfl ?_
  refine Gx_icmp_ne (off := 7) (tgt := 20) (by decide +kernel) (by decide) (fun z => ?_) (fun z => ?_)
  · have h := h.1 z
    refine Gx_run (es := eX4_isRefused_20) (P := []) (M' := M) (L' := [some (.ref 50), some (.int p1)]) (st' := [.int (0 : Int32)]) (pc' := 21) kX4_isRefused_20 rfl trivial rfl ?_
    refine Gx_mask [false, false] (L' := [none, none]) rfl ?_
    exact tX4_isRefused_21  M (0 : Int32) h
  · have h := h.2 z
    refine Gx_run (es := eX4_isRefused_16) (P := []) (M' := M) (L' := [some (.ref 50), some (.int p1)]) (st' := [.int (1 : Int32)]) (pc' := 17) kX4_isRefused_16 rfl trivial rfl ?_
    refine Gx_goto (off := 4) (tgt := 21) (by decide +kernel) (by decide) ?_
    refine Gx_mask [false, false] (L' := [none, none]) rfl ?_
    exact tX4_isRefused_21  M (1 : Int32) h
def eX4_isSharedAhead_0 : List xI := [(.iconst 0, 1, 0, 0, (0)), (.istore_n 2, 1, 0, 0, 0), (.iconst 0, 1, 0, 0, (0)), (.istore_n 3, 1, 0, 0, 0)]
theorem kX4_isSharedAhead_0 : xcode (xmb mX4_isSharedAhead) (xmo mX4_isSharedAhead) 0 eX4_isSharedAhead_0 = true := by decide +kernel
def eX4_isSharedAhead_4 : List xI := [(.iload_n 3, 1, 0, 0, 0), (.iload_n 1, 1, 0, 0, 0)]
theorem kX4_isSharedAhead_4 : xcode (xmb mX4_isSharedAhead) (xmo mX4_isSharedAhead) 4 eX4_isSharedAhead_4 = true := by decide +kernel
def eX4_isSharedAhead_46 : List xI := [(.iload_n 2, 1, 0, 0, 0)]
theorem kX4_isSharedAhead_46 : xcode (xmb mX4_isSharedAhead) (xmo mX4_isSharedAhead) 46 eX4_isSharedAhead_46 = true := by decide +kernel
def eX4_isSharedAhead_9 : List xI := [(.iload_n 2, 1, 0, 0, 0)]
theorem kX4_isSharedAhead_9 : xcode (xmb mX4_isSharedAhead) (xmo mX4_isSharedAhead) 9 eX4_isSharedAhead_9 = true := by decide +kernel
def eX4_isSharedAhead_34 : List xI := [(.iconst 1, 1, 0, 0, (1))]
theorem kX4_isSharedAhead_34 : xcode (xmb mX4_isSharedAhead) (xmo mX4_isSharedAhead) 34 eX4_isSharedAhead_34 = true := by decide +kernel
def eX4_isSharedAhead_39 : List xI := [(.istore_n 2, 1, 0, 0, 0), (.iinc 3 1, 3, 0, 0, (1))]
theorem kX4_isSharedAhead_39 : xcode (xmb mX4_isSharedAhead) (xmo mX4_isSharedAhead) 39 eX4_isSharedAhead_39 = true := by decide +kernel
def eX4_isSharedAhead_13 : List xI := [(.aload_n 0, 1, 0, 0, 0), (.getfield 7, 3, 4, 1, 0), (.bipush 30, 2, 0, 0, (30)), (.iload_n 3, 1, 0, 0, 0), (.iadd, 1, 0, 0, 0), (.iaload, 1, 0, 0, 0), (.aload_n 0, 1, 0, 0, 0), (.getfield 7, 3, 4, 1, 0), (.bipush 30, 2, 0, 0, (30)), (.iload_n 1, 1, 0, 0, 0), (.iadd, 1, 0, 0, 0), (.iaload, 1, 0, 0, 0)]
theorem kX4_isSharedAhead_13 : xcode (xmb mX4_isSharedAhead) (xmo mX4_isSharedAhead) 13 eX4_isSharedAhead_13 = true := by decide +kernel
def eX4_isSharedAhead_38 : List xI := [(.iconst 0, 1, 0, 0, (0))]
theorem kX4_isSharedAhead_38 : xcode (xmb mX4_isSharedAhead) (xmo mX4_isSharedAhead) 38 eX4_isSharedAhead_38 = true := by decide +kernel
def wX4_isSharedAhead_39 (p1 : Int32) (Q : Int32 → xM → Prop) (k4 : xM → Int32 → Int32 → Prop) (M : xM) (a3 : Int32) (s0 : Int32) : Prop :=
    k4 M s0 (a3 + (1 : Int32))
set_option maxHeartbeats 4000000 in
set_option maxRecDepth 100000 in
theorem tX4_isSharedAhead_39 {l : Launch} {E : xE} {p1 : Int32} {Q : Int32 → xM → Prop} {k4 : xM → Int32 → Int32 → Prop} (hk4 : ∀ (M : xM) (a2 : Int32) (a3 : Int32), k4 M a2 a3 → Gx l E mX4_isSharedAhead (xRi Q) 4 M [some (.ref 50), some (.int p1), some (.int a2), some (.int a3)] []) (M : xM) (a3 : Int32) (s0 : Int32) (h : wX4_isSharedAhead_39 p1 Q k4 M a3 s0) : Gx l E mX4_isSharedAhead (xRi Q) 39 M [some (.ref 50), some (.int p1), none, some (.int a3)] [.int s0] := by
  unfold wX4_isSharedAhead_39 at h
  refine Gx_run (es := eX4_isSharedAhead_39) (P := []) (M' := M) (L' := [some (.ref 50), some (.int p1), some (.int s0), some (.int (a3 + (1 : Int32)))]) (st' := []) (pc' := 43) kX4_isSharedAhead_39 rfl trivial rfl ?_
  refine Gx_goto (off := -39) (tgt := 4) (by decide +kernel) (by decide) ?_
  refine Gx_mask [true, true, true, true] (L' := [some (.ref 50), some (.int p1), some (.int s0), some (.int (a3 + (1 : Int32)))]) rfl ?_
  exact hk4 M s0 (a3 + (1 : Int32)) h
def wX4_isSharedAhead_34 (p1 : Int32) (Q : Int32 → xM → Prop) (k4 : xM → Int32 → Int32 → Prop) (M : xM) (a3 : Int32) : Prop :=
    wX4_isSharedAhead_39 p1 Q k4 M a3 (1 : Int32)
set_option maxHeartbeats 4000000 in
set_option maxRecDepth 100000 in
theorem tX4_isSharedAhead_34 {l : Launch} {E : xE} {p1 : Int32} {Q : Int32 → xM → Prop} {k4 : xM → Int32 → Int32 → Prop} (hk4 : ∀ (M : xM) (a2 : Int32) (a3 : Int32), k4 M a2 a3 → Gx l E mX4_isSharedAhead (xRi Q) 4 M [some (.ref 50), some (.int p1), some (.int a2), some (.int a3)] []) (M : xM) (a3 : Int32) (h : wX4_isSharedAhead_34 p1 Q k4 M a3) : Gx l E mX4_isSharedAhead (xRi Q) 34 M [some (.ref 50), some (.int p1), none, some (.int a3)] [] := by
  unfold wX4_isSharedAhead_34 at h
  refine Gx_run (es := eX4_isSharedAhead_34) (P := []) (M' := M) (L' := [some (.ref 50), some (.int p1), none, some (.int a3)]) (st' := [.int (1 : Int32)]) (pc' := 35) kX4_isSharedAhead_34 rfl trivial rfl ?_
  refine Gx_goto (off := 4) (tgt := 39) (by decide +kernel) (by decide) ?_
  refine Gx_mask [true, true, false, true] (L' := [some (.ref 50), some (.int p1), none, some (.int a3)]) rfl ?_
  exact tX4_isSharedAhead_39  hk4 M a3 (1 : Int32) h
def lX4_isSharedAhead_4 (p1 : Int32) (Q : Int32 → xM → Prop) : Nat → xM → Int32 → Int32 → Prop
  | 0 => fun _ _ _ => False
  | n + 1 => let k4 := lX4_isSharedAhead_4 p1 Q n; fun M a2 a3 =>
    (((p1 ≤ a3) → ((a2 &&& 1 = a2) ∧ Q a2 M)) ∧ ((¬ p1 ≤ a3) → ((((¬ a2 = 0) → (wX4_isSharedAhead_34 p1 Q k4 M a3)) ∧ ((a2 = 0) → ((vp_in ((30 : Int32) + a3) 147) ∧ (vp_in ((30 : Int32) + p1) 147) ∧ (((¬ (M 51 ((30 : Int32) + a3).toNatClampNeg) = (M 51 ((30 : Int32) + p1).toNatClampNeg)) → (wX4_isSharedAhead_39 p1 Q k4 M a3 (0 : Int32))) ∧ (((M 51 ((30 : Int32) + a3).toNatClampNeg) = (M 51 ((30 : Int32) + p1).toNatClampNeg)) → (wX4_isSharedAhead_34 p1 Q k4 M a3)))))))))
set_option maxHeartbeats 4000000 in
set_option maxRecDepth 100000 in
theorem tX4_isSharedAhead_4 {l : Launch} {E : xE} {p1 : Int32} {Q : Int32 → xM → Prop} (n : Nat) : ∀ (M : xM) (a2 : Int32) (a3 : Int32), lX4_isSharedAhead_4 p1 Q n M a2 a3 → Gx l E mX4_isSharedAhead (xRi Q) 4 M [some (.ref 50), some (.int p1), some (.int a2), some (.int a3)] [] := by
  induction n with
  | zero => intro M a2 a3 h; exact h.elim
  | succ n hk4 =>
      intro M a2 a3 h
      unfold lX4_isSharedAhead_4 at h
      dsimp only at h
      refine Gx_run (es := eX4_isSharedAhead_4) (P := []) (M' := M) (L' := [some (.ref 50), some (.int p1), some (.int a2), some (.int a3)]) (st' := [.int p1, .int a3]) (pc' := 6) kX4_isSharedAhead_4 rfl trivial rfl ?_
      refine Gx_icmp_ge (off := 40) (tgt := 46) (by decide +kernel) (by decide) (fun z => ?_) (fun z => ?_)
      · have h := h.1 z
        refine Gx_run (es := eX4_isSharedAhead_46) (P := []) (M' := M) (L' := [some (.ref 50), some (.int p1), some (.int a2), some (.int a3)]) (st' := [.int a2]) (pc' := 47) kX4_isSharedAhead_46 rfl trivial rfl ?_
        exact Gx_iret (by decide +kernel) rfl (congrArg Value.int h.1) ⟨_, rfl, h.2⟩
      · have h := h.2 z
        refine Gx_run (es := eX4_isSharedAhead_9) (P := []) (M' := M) (L' := [some (.ref 50), some (.int p1), some (.int a2), some (.int a3)]) (st' := [.int a2]) (pc' := 10) kX4_isSharedAhead_9 rfl trivial rfl ?_
        refine Gx_if_ne (off := 24) (tgt := 34) (by decide +kernel) (by decide) (fun z => ?_) (fun z => ?_)
        · have h := h.1 z
          refine Gx_mask [true, true, false, true] (L' := [some (.ref 50), some (.int p1), none, some (.int a3)]) rfl ?_
          exact tX4_isSharedAhead_34  hk4 M a3 h
        · have h := h.2 z
          obtain ⟨g13_0, g13_1, h⟩ := h
          refine Gx_run (es := eX4_isSharedAhead_13) (P := [xkd 50 = 4, xkd 51 = 5, vp_in ((30 : Int32) + a3) (xln 51), xkd 50 = 4, xkd 51 = 5, vp_in ((30 : Int32) + p1) (xln 51)]) (M' := M) (L' := [some (.ref 50), some (.int p1), some (.int a2), some (.int a3)]) (st' := [.int (M 51 ((30 : Int32) + p1).toNatClampNeg), .int (M 51 ((30 : Int32) + a3).toNatClampNeg)]) (pc' := 31) kX4_isSharedAhead_13 rfl ⟨rfl, rfl, g13_0, rfl, rfl, g13_1, trivial⟩ rfl ?_
          refine Gx_icmp_ne (off := 7) (tgt := 38) (by decide +kernel) (by decide) (fun z => ?_) (fun z => ?_)
          · have h := h.1 z
            refine Gx_run (es := eX4_isSharedAhead_38) (P := []) (M' := M) (L' := [some (.ref 50), some (.int p1), some (.int a2), some (.int a3)]) (st' := [.int (0 : Int32)]) (pc' := 39) kX4_isSharedAhead_38 rfl trivial rfl ?_
            refine Gx_mask [true, true, false, true] (L' := [some (.ref 50), some (.int p1), none, some (.int a3)]) rfl ?_
            exact tX4_isSharedAhead_39  hk4 M a3 (0 : Int32) h
          · have h := h.2 z
            refine Gx_mask [true, true, false, true] (L' := [some (.ref 50), some (.int p1), none, some (.int a3)]) rfl ?_
            exact tX4_isSharedAhead_34  hk4 M a3 h
def wX4_isSharedAhead (M : xM) (p1 : Int32) (Q : Int32 → xM → Prop) : Prop :=
    (∃ n : Nat, lX4_isSharedAhead_4 p1 Q n M (0 : Int32) (0 : Int32))
set_option maxHeartbeats 4000000 in
set_option maxRecDepth 100000 in
theorem tX4_isSharedAhead {l : Launch} {E : xE} {M : xM} {p1 : Int32} {Q : Int32 → xM → Prop} (h : wX4_isSharedAhead M p1 Q) : Ct l E mX4_isSharedAhead [.ref 50, .int p1] M (xRi Q) := by
  refine Ct_of (by decide +kernel) rfl (Nat.le_of_ble_eq_true rfl) ?_
  unfold wX4_isSharedAhead at h
  show Gx l E mX4_isSharedAhead (xRi Q) 0 M [some (.ref 50), some (.int p1), none, none] []
  refine Gx_run (es := eX4_isSharedAhead_0) (P := []) (M' := M) (L' := [some (.ref 50), some (.int p1), some (.int (0 : Int32)), some (.int (0 : Int32))]) (st' := []) (pc' := 4) kX4_isSharedAhead_0 rfl trivial rfl ?_
  refine Gx_mask [true, true, true, true] (L' := [some (.ref 50), some (.int p1), some (.int (0 : Int32)), some (.int (0 : Int32))]) rfl ?_
  obtain ⟨n, h⟩ := h
  exact tX4_isSharedAhead_4  n M (0 : Int32) (0 : Int32) h
def eX4_keeps_0 : List xI := [(.iconst 0, 1, 0, 0, (0)), (.istore_n 1, 1, 0, 0, 0)]
theorem kX4_keeps_0 : xcode (xmb mX4_keeps) (xmo mX4_keeps) 0 eX4_keeps_0 = true := by decide +kernel
def eX4_keeps_2 : List xI := [(.iload_n 1, 1, 0, 0, 0), (.sipush 147, 3, 0, 0, (147))]
theorem kX4_keeps_2 : xcode (xmb mX4_keeps) (xmo mX4_keeps) 2 eX4_keeps_2 = true := by decide +kernel
def eX4_keeps_9 : List xI := [(.aload_n 0, 1, 0, 0, 0), (.getfield 16, 3, 4, 3, 0), (.iload_n 1, 1, 0, 0, 0), (.aload_n 0, 1, 0, 0, 0), (.getfield 7, 3, 4, 1, 0), (.iload_n 1, 1, 0, 0, 0), (.iaload, 1, 0, 0, 0), (.iastore, 1, 0, 0, 0), (.iinc 1 1, 3, 0, 0, (1))]
theorem kX4_keeps_9 : xcode (xmb mX4_keeps) (xmo mX4_keeps) 9 eX4_keeps_9 = true := by decide +kernel
def lX4_keeps_2 (Q : xM → Prop) : Nat → xM → Int32 → Prop
  | 0 => fun _ _ => False
  | n + 1 => let k2 := lX4_keeps_2  Q n; fun M a1 =>
    ((((147 : Int32) ≤ a1) → (Q M)) ∧ ((¬ (147 : Int32) ≤ a1) → ((vp_in a1 147) ∧ k2 (xup M 53 a1.toNatClampNeg (M 51 a1.toNatClampNeg)) (a1 + (1 : Int32)))))
set_option maxHeartbeats 4000000 in
set_option maxRecDepth 100000 in
theorem tX4_keeps_2 {l : Launch} {E : xE} {Q : xM → Prop} (n : Nat) : ∀ (M : xM) (a1 : Int32), lX4_keeps_2  Q n M a1 → Gx l E mX4_keeps (xRv Q) 2 M [some (.ref 50), some (.int a1)] [] := by
  induction n with
  | zero => intro M a1 h; exact h.elim
  | succ n hk2 =>
      intro M a1 h
      unfold lX4_keeps_2 at h
      dsimp only at h
      refine Gx_run (es := eX4_keeps_2) (P := []) (M' := M) (L' := [some (.ref 50), some (.int a1)]) (st' := [.int (147 : Int32), .int a1]) (pc' := 6) kX4_keeps_2 rfl trivial rfl ?_
      refine Gx_icmp_ge (off := 21) (tgt := 27) (by decide +kernel) (by decide) (fun z => ?_) (fun z => ?_)
      · have h := h.1 z
        exact Gx_vret (by decide +kernel) rfl ⟨rfl, h⟩
      · have h := h.2 z
        obtain ⟨g9_0, h⟩ := h
        refine Gx_run (es := eX4_keeps_9) (P := [xkd 50 = 4, xkd 50 = 4, xkd 51 = 5, vp_in a1 (xln 51), xkd 53 = 5, vp_in a1 (xln 53)]) (M' := (xup M 53 a1.toNatClampNeg (M 51 a1.toNatClampNeg))) (L' := [some (.ref 50), some (.int (a1 + (1 : Int32)))]) (st' := []) (pc' := 24) kX4_keeps_9 rfl ⟨rfl, rfl, rfl, g9_0, rfl, g9_0, trivial⟩ rfl ?_
        refine Gx_goto (off := -22) (tgt := 2) (by decide +kernel) (by decide) ?_
        refine Gx_mask [true, true] (L' := [some (.ref 50), some (.int (a1 + (1 : Int32)))]) rfl ?_
        exact hk2 (xup M 53 a1.toNatClampNeg (M 51 a1.toNatClampNeg)) (a1 + (1 : Int32)) h
def wX4_keeps (M : xM) (Q : xM → Prop) : Prop :=
    (∃ n : Nat, lX4_keeps_2  Q n M (0 : Int32))
set_option maxHeartbeats 4000000 in
set_option maxRecDepth 100000 in
theorem tX4_keeps {l : Launch} {E : xE} {M : xM} {Q : xM → Prop} (h : wX4_keeps M  Q) : Ct l E mX4_keeps [.ref 50] M (xRv Q) := by
  refine Ct_of (by decide +kernel) rfl (Nat.le_of_ble_eq_true rfl) ?_
  unfold wX4_keeps at h
  show Gx l E mX4_keeps (xRv Q) 0 M [some (.ref 50), none] []
  refine Gx_run (es := eX4_keeps_0) (P := []) (M' := M) (L' := [some (.ref 50), some (.int (0 : Int32))]) (st' := []) (pc' := 2) kX4_keeps_0 rfl trivial rfl ?_
  refine Gx_mask [true, true] (L' := [some (.ref 50), some (.int (0 : Int32))]) rfl ?_
  obtain ⟨n, h⟩ := h
  exact tX4_keeps_2  n M (0 : Int32) h
def eX4_leastName_0 : List xI := [(.iconst 0, 1, 0, 0, (0)), (.istore_n 1, 1, 0, 0, 0)]
theorem kX4_leastName_0 : xcode (xmb mX4_leastName) (xmo mX4_leastName) 0 eX4_leastName_0 = true := by decide +kernel
def eX4_leastName_2 : List xI := [(.iload_n 1, 1, 0, 0, 0), (.bipush 26, 2, 0, 0, (26))]
theorem kX4_leastName_2 : xcode (xmb mX4_leastName) (xmo mX4_leastName) 2 eX4_leastName_2 = true := by decide +kernel
def eX4_leastName_75 : List xI := [(.iconst 0, 1, 0, 0, (0))]
theorem kX4_leastName_75 : xcode (xmb mX4_leastName) (xmo mX4_leastName) 75 eX4_leastName_75 = true := by decide +kernel
def eX4_leastName_8 : List xI := [(.iconst 0, 1, 0, 0, (0)), (.istore_n 2, 1, 0, 0, 0), (.iconst 0, 1, 0, 0, (0)), (.istore_n 3, 1, 0, 0, 0)]
theorem kX4_leastName_8 : xcode (xmb mX4_leastName) (xmo mX4_leastName) 8 eX4_leastName_8 = true := by decide +kernel
def eX4_leastName_12 : List xI := [(.iload_n 3, 1, 0, 0, 0), (.bipush 6, 2, 0, 0, (6))]
theorem kX4_leastName_12 : xcode (xmb mX4_leastName) (xmo mX4_leastName) 12 eX4_leastName_12 = true := by decide +kernel
def eX4_leastName_63 : List xI := [(.iload_n 2, 1, 0, 0, 0)]
theorem kX4_leastName_63 : xcode (xmb mX4_leastName) (xmo mX4_leastName) 63 eX4_leastName_63 = true := by decide +kernel
def eX4_leastName_69 : List xI := [(.iinc 1 1, 3, 0, 0, (1))]
theorem kX4_leastName_69 : xcode (xmb mX4_leastName) (xmo mX4_leastName) 69 eX4_leastName_69 = true := by decide +kernel
def eX4_leastName_67 : List xI := [(.iload_n 1, 1, 0, 0, 0)]
theorem kX4_leastName_67 : xcode (xmb mX4_leastName) (xmo mX4_leastName) 67 eX4_leastName_67 = true := by decide +kernel
def eX4_leastName_18 : List xI := [(.iload_n 2, 1, 0, 0, 0)]
theorem kX4_leastName_18 : xcode (xmb mX4_leastName) (xmo mX4_leastName) 18 eX4_leastName_18 = true := by decide +kernel
def eX4_leastName_51 : List xI := [(.iconst 1, 1, 0, 0, (1))]
theorem kX4_leastName_51 : xcode (xmb mX4_leastName) (xmo mX4_leastName) 51 eX4_leastName_51 = true := by decide +kernel
def eX4_leastName_56 : List xI := [(.istore_n 2, 1, 0, 0, 0), (.iinc 3 1, 3, 0, 0, (1))]
theorem kX4_leastName_56 : xcode (xmb mX4_leastName) (xmo mX4_leastName) 56 eX4_leastName_56 = true := by decide +kernel
def eX4_leastName_22 : List xI := [(.aload_n 0, 1, 0, 0, 0), (.getfield 7, 3, 4, 1, 0), (.bipush 60, 2, 0, 0, (60)), (.iload_n 3, 1, 0, 0, 0), (.iadd, 1, 0, 0, 0), (.iaload, 1, 0, 0, 0), (.iconst (-1), 1, 0, 0, (-1))]
theorem kX4_leastName_22 : xcode (xmb mX4_leastName) (xmo mX4_leastName) 22 eX4_leastName_22 = true := by decide +kernel
def eX4_leastName_55 : List xI := [(.iconst 0, 1, 0, 0, (0))]
theorem kX4_leastName_55 : xcode (xmb mX4_leastName) (xmo mX4_leastName) 55 eX4_leastName_55 = true := by decide +kernel
def eX4_leastName_35 : List xI := [(.aload_n 0, 1, 0, 0, 0), (.getfield 7, 3, 4, 1, 0), (.bipush 60, 2, 0, 0, (60)), (.iload_n 3, 1, 0, 0, 0), (.iadd, 1, 0, 0, 0), (.iaload, 1, 0, 0, 0), (.bipush 26, 2, 0, 0, (26)), (.irem, 1, 0, 0, 0), (.iload_n 1, 1, 0, 0, 0)]
theorem kX4_leastName_35 : xcode (xmb mX4_leastName) (xmo mX4_leastName) 35 eX4_leastName_35 = true := by decide +kernel
def wX4_leastName_56 (Q : Int32 → xM → Prop) (k2 : xM → Int32 → Prop) (k12 : xM → Int32 → Int32 → Int32 → Prop) (M : xM) (a1 : Int32) (a3 : Int32) (s0 : Int32) : Prop :=
    k12 M a1 s0 (a3 + (1 : Int32))
set_option maxHeartbeats 4000000 in
set_option maxRecDepth 100000 in
theorem tX4_leastName_56 {l : Launch} {E : xE} {Q : Int32 → xM → Prop} {k2 : xM → Int32 → Prop} {k12 : xM → Int32 → Int32 → Int32 → Prop} (hk2 : ∀ (M : xM) (a1 : Int32), k2 M a1 → Gx l E mX4_leastName (xRi Q) 2 M [some (.ref 50), some (.int a1), none, none] []) (hk12 : ∀ (M : xM) (a1 : Int32) (a2 : Int32) (a3 : Int32), k12 M a1 a2 a3 → Gx l E mX4_leastName (xRi Q) 12 M [some (.ref 50), some (.int a1), some (.int a2), some (.int a3)] []) (M : xM) (a1 : Int32) (a3 : Int32) (s0 : Int32) (h : wX4_leastName_56  Q k2 k12 M a1 a3 s0) : Gx l E mX4_leastName (xRi Q) 56 M [some (.ref 50), some (.int a1), none, some (.int a3)] [.int s0] := by
  unfold wX4_leastName_56 at h
  refine Gx_run (es := eX4_leastName_56) (P := []) (M' := M) (L' := [some (.ref 50), some (.int a1), some (.int s0), some (.int (a3 + (1 : Int32)))]) (st' := []) (pc' := 60) kX4_leastName_56 rfl trivial rfl ?_
  refine Gx_goto (off := -48) (tgt := 12) (by decide +kernel) (by decide) ?_
  refine Gx_mask [true, true, true, true] (L' := [some (.ref 50), some (.int a1), some (.int s0), some (.int (a3 + (1 : Int32)))]) rfl ?_
  exact hk12 M a1 s0 (a3 + (1 : Int32)) h
def wX4_leastName_51 (Q : Int32 → xM → Prop) (k2 : xM → Int32 → Prop) (k12 : xM → Int32 → Int32 → Int32 → Prop) (M : xM) (a1 : Int32) (a3 : Int32) : Prop :=
    wX4_leastName_56  Q k2 k12 M a1 a3 (1 : Int32)
set_option maxHeartbeats 4000000 in
set_option maxRecDepth 100000 in
theorem tX4_leastName_51 {l : Launch} {E : xE} {Q : Int32 → xM → Prop} {k2 : xM → Int32 → Prop} {k12 : xM → Int32 → Int32 → Int32 → Prop} (hk2 : ∀ (M : xM) (a1 : Int32), k2 M a1 → Gx l E mX4_leastName (xRi Q) 2 M [some (.ref 50), some (.int a1), none, none] []) (hk12 : ∀ (M : xM) (a1 : Int32) (a2 : Int32) (a3 : Int32), k12 M a1 a2 a3 → Gx l E mX4_leastName (xRi Q) 12 M [some (.ref 50), some (.int a1), some (.int a2), some (.int a3)] []) (M : xM) (a1 : Int32) (a3 : Int32) (h : wX4_leastName_51  Q k2 k12 M a1 a3) : Gx l E mX4_leastName (xRi Q) 51 M [some (.ref 50), some (.int a1), none, some (.int a3)] [] := by
  unfold wX4_leastName_51 at h
  refine Gx_run (es := eX4_leastName_51) (P := []) (M' := M) (L' := [some (.ref 50), some (.int a1), none, some (.int a3)]) (st' := [.int (1 : Int32)]) (pc' := 52) kX4_leastName_51 rfl trivial rfl ?_
  refine Gx_goto (off := 4) (tgt := 56) (by decide +kernel) (by decide) ?_
  refine Gx_mask [true, true, false, true] (L' := [some (.ref 50), some (.int a1), none, some (.int a3)]) rfl ?_
  exact tX4_leastName_56  hk2 hk12 M a1 a3 (1 : Int32) h
def wX4_leastName_55 (Q : Int32 → xM → Prop) (k2 : xM → Int32 → Prop) (k12 : xM → Int32 → Int32 → Int32 → Prop) (M : xM) (a1 : Int32) (a3 : Int32) : Prop :=
    wX4_leastName_56  Q k2 k12 M a1 a3 (0 : Int32)
set_option maxHeartbeats 4000000 in
set_option maxRecDepth 100000 in
theorem tX4_leastName_55 {l : Launch} {E : xE} {Q : Int32 → xM → Prop} {k2 : xM → Int32 → Prop} {k12 : xM → Int32 → Int32 → Int32 → Prop} (hk2 : ∀ (M : xM) (a1 : Int32), k2 M a1 → Gx l E mX4_leastName (xRi Q) 2 M [some (.ref 50), some (.int a1), none, none] []) (hk12 : ∀ (M : xM) (a1 : Int32) (a2 : Int32) (a3 : Int32), k12 M a1 a2 a3 → Gx l E mX4_leastName (xRi Q) 12 M [some (.ref 50), some (.int a1), some (.int a2), some (.int a3)] []) (M : xM) (a1 : Int32) (a3 : Int32) (h : wX4_leastName_55  Q k2 k12 M a1 a3) : Gx l E mX4_leastName (xRi Q) 55 M [some (.ref 50), some (.int a1), none, some (.int a3)] [] := by
  unfold wX4_leastName_55 at h
  refine Gx_run (es := eX4_leastName_55) (P := []) (M' := M) (L' := [some (.ref 50), some (.int a1), none, some (.int a3)]) (st' := [.int (0 : Int32)]) (pc' := 56) kX4_leastName_55 rfl trivial rfl ?_
  refine Gx_mask [true, true, false, true] (L' := [some (.ref 50), some (.int a1), none, some (.int a3)]) rfl ?_
  exact tX4_leastName_56  hk2 hk12 M a1 a3 (0 : Int32) h
def lX4_leastName_12 (Q : Int32 → xM → Prop) (k2 : xM → Int32 → Prop) : Nat → xM → Int32 → Int32 → Int32 → Prop
  | 0 => fun _ _ _ _ => False
  | n + 1 => let k12 := lX4_leastName_12  Q k2 n; fun M a1 a2 a3 =>
    ((((6 : Int32) ≤ a3) → ((((¬ a2 = 0) → (k2 M (a1 + (1 : Int32)))) ∧ ((a2 = 0) → (Q a1 M))))) ∧ ((¬ (6 : Int32) ≤ a3) → ((((¬ a2 = 0) → (wX4_leastName_51  Q k2 k12 M a1 a3)) ∧ ((a2 = 0) → ((vp_in ((60 : Int32) + a3) 147) ∧ ((((M 51 ((60 : Int32) + a3).toNatClampNeg) = (-1 : Int32)) → (wX4_leastName_55  Q k2 k12 M a1 a3)) ∧ ((¬ (M 51 ((60 : Int32) + a3).toNatClampNeg) = (-1 : Int32)) → ((vp_in ((60 : Int32) + a3) 147) ∧ (((¬ ((M 51 ((60 : Int32) + a3).toNatClampNeg) - (M 51 ((60 : Int32) + a3).toNatClampNeg) / (26 : Int32) * (26 : Int32)) = a1) → (wX4_leastName_55  Q k2 k12 M a1 a3)) ∧ ((((M 51 ((60 : Int32) + a3).toNatClampNeg) - (M 51 ((60 : Int32) + a3).toNatClampNeg) / (26 : Int32) * (26 : Int32)) = a1) → (wX4_leastName_51  Q k2 k12 M a1 a3))))))))))))
set_option maxHeartbeats 4000000 in
set_option maxRecDepth 100000 in
theorem tX4_leastName_12 {l : Launch} {E : xE} {Q : Int32 → xM → Prop} {k2 : xM → Int32 → Prop} (hk2 : ∀ (M : xM) (a1 : Int32), k2 M a1 → Gx l E mX4_leastName (xRi Q) 2 M [some (.ref 50), some (.int a1), none, none] []) (n : Nat) : ∀ (M : xM) (a1 : Int32) (a2 : Int32) (a3 : Int32), lX4_leastName_12  Q k2 n M a1 a2 a3 → Gx l E mX4_leastName (xRi Q) 12 M [some (.ref 50), some (.int a1), some (.int a2), some (.int a3)] [] := by
  induction n with
  | zero => intro M a1 a2 a3 h; exact h.elim
  | succ n hk12 =>
      intro M a1 a2 a3 h
      unfold lX4_leastName_12 at h
      dsimp only at h
      refine Gx_run (es := eX4_leastName_12) (P := []) (M' := M) (L' := [some (.ref 50), some (.int a1), some (.int a2), some (.int a3)]) (st' := [.int (6 : Int32), .int a3]) (pc' := 15) kX4_leastName_12 rfl trivial rfl ?_
      refine Gx_icmp_ge (off := 48) (tgt := 63) (by decide +kernel) (by decide) (fun z => ?_) (fun z => ?_)
      · have h := h.1 z
        refine Gx_run (es := eX4_leastName_63) (P := []) (M' := M) (L' := [some (.ref 50), some (.int a1), some (.int a2), some (.int a3)]) (st' := [.int a2]) (pc' := 64) kX4_leastName_63 rfl trivial rfl ?_
        refine Gx_if_ne (off := 5) (tgt := 69) (by decide +kernel) (by decide) (fun z => ?_) (fun z => ?_)
        · have h := h.1 z
          refine Gx_run (es := eX4_leastName_69) (P := []) (M' := M) (L' := [some (.ref 50), some (.int (a1 + (1 : Int32))), some (.int a2), some (.int a3)]) (st' := []) (pc' := 72) kX4_leastName_69 rfl trivial rfl ?_
          refine Gx_goto (off := -70) (tgt := 2) (by decide +kernel) (by decide) ?_
          refine Gx_mask [true, true, false, false] (L' := [some (.ref 50), some (.int (a1 + (1 : Int32))), none, none]) rfl ?_
          exact hk2 M (a1 + (1 : Int32)) h
        · have h := h.2 z
          refine Gx_run (es := eX4_leastName_67) (P := []) (M' := M) (L' := [some (.ref 50), some (.int a1), some (.int a2), some (.int a3)]) (st' := [.int a1]) (pc' := 68) kX4_leastName_67 rfl trivial rfl ?_
          exact Gx_iret (by decide +kernel) rfl rfl ⟨_, rfl, h⟩
      · have h := h.2 z
        refine Gx_run (es := eX4_leastName_18) (P := []) (M' := M) (L' := [some (.ref 50), some (.int a1), some (.int a2), some (.int a3)]) (st' := [.int a2]) (pc' := 19) kX4_leastName_18 rfl trivial rfl ?_
        refine Gx_if_ne (off := 32) (tgt := 51) (by decide +kernel) (by decide) (fun z => ?_) (fun z => ?_)
        · have h := h.1 z
          refine Gx_mask [true, true, false, true] (L' := [some (.ref 50), some (.int a1), none, some (.int a3)]) rfl ?_
          exact tX4_leastName_51  hk2 hk12 M a1 a3 h
        · have h := h.2 z
          obtain ⟨g22_0, h⟩ := h
          refine Gx_run (es := eX4_leastName_22) (P := [xkd 50 = 4, xkd 51 = 5, vp_in ((60 : Int32) + a3) (xln 51)]) (M' := M) (L' := [some (.ref 50), some (.int a1), some (.int a2), some (.int a3)]) (st' := [.int (-1 : Int32), .int (M 51 ((60 : Int32) + a3).toNatClampNeg)]) (pc' := 32) kX4_leastName_22 rfl ⟨rfl, rfl, g22_0, trivial⟩ rfl ?_
          refine Gx_icmp_eq (off := 23) (tgt := 55) (by decide +kernel) (by decide) (fun z => ?_) (fun z => ?_)
          · have h := h.1 z
            refine Gx_mask [true, true, false, true] (L' := [some (.ref 50), some (.int a1), none, some (.int a3)]) rfl ?_
            exact tX4_leastName_55  hk2 hk12 M a1 a3 h
          · have h := h.2 z
            obtain ⟨g35_0, h⟩ := h
            refine Gx_run (es := eX4_leastName_35) (P := [xkd 50 = 4, xkd 51 = 5, vp_in ((60 : Int32) + a3) (xln 51), ¬ (26 : Int32) = 0]) (M' := M) (L' := [some (.ref 50), some (.int a1), some (.int a2), some (.int a3)]) (st' := [.int a1, .int ((M 51 ((60 : Int32) + a3).toNatClampNeg) - (M 51 ((60 : Int32) + a3).toNatClampNeg) / (26 : Int32) * (26 : Int32))]) (pc' := 48) kX4_leastName_35 rfl ⟨rfl, rfl, g35_0, (by decide), trivial⟩ rfl ?_
            refine Gx_icmp_ne (off := 7) (tgt := 55) (by decide +kernel) (by decide) (fun z => ?_) (fun z => ?_)
            · have h := h.1 z
              refine Gx_mask [true, true, false, true] (L' := [some (.ref 50), some (.int a1), none, some (.int a3)]) rfl ?_
              exact tX4_leastName_55  hk2 hk12 M a1 a3 h
            · have h := h.2 z
              refine Gx_mask [true, true, false, true] (L' := [some (.ref 50), some (.int a1), none, some (.int a3)]) rfl ?_
              exact tX4_leastName_51  hk2 hk12 M a1 a3 h
def lX4_leastName_2 (Q : Int32 → xM → Prop) : Nat → xM → Int32 → Prop
  | 0 => fun _ _ => False
  | n + 1 => let k2 := lX4_leastName_2  Q n; fun M a1 =>
    ((((26 : Int32) ≤ a1) → (Q (0 : Int32) M)) ∧ ((¬ (26 : Int32) ≤ a1) → ((∃ n : Nat, lX4_leastName_12  Q k2 n M a1 (0 : Int32) (0 : Int32)))))
set_option maxHeartbeats 4000000 in
set_option maxRecDepth 100000 in
theorem tX4_leastName_2 {l : Launch} {E : xE} {Q : Int32 → xM → Prop} (n : Nat) : ∀ (M : xM) (a1 : Int32), lX4_leastName_2  Q n M a1 → Gx l E mX4_leastName (xRi Q) 2 M [some (.ref 50), some (.int a1), none, none] [] := by
  induction n with
  | zero => intro M a1 h; exact h.elim
  | succ n hk2 =>
      intro M a1 h
      unfold lX4_leastName_2 at h
      dsimp only at h
      refine Gx_run (es := eX4_leastName_2) (P := []) (M' := M) (L' := [some (.ref 50), some (.int a1), none, none]) (st' := [.int (26 : Int32), .int a1]) (pc' := 5) kX4_leastName_2 rfl trivial rfl ?_
      refine Gx_icmp_ge (off := 70) (tgt := 75) (by decide +kernel) (by decide) (fun z => ?_) (fun z => ?_)
      · have h := h.1 z
        refine Gx_run (es := eX4_leastName_75) (P := []) (M' := M) (L' := [some (.ref 50), some (.int a1), none, none]) (st' := [.int (0 : Int32)]) (pc' := 76) kX4_leastName_75 rfl trivial rfl ?_
        exact Gx_iret (by decide +kernel) rfl rfl ⟨_, rfl, h⟩
      · have h := h.2 z
        refine Gx_run (es := eX4_leastName_8) (P := []) (M' := M) (L' := [some (.ref 50), some (.int a1), some (.int (0 : Int32)), some (.int (0 : Int32))]) (st' := []) (pc' := 12) kX4_leastName_8 rfl trivial rfl ?_
        refine Gx_mask [true, true, true, true] (L' := [some (.ref 50), some (.int a1), some (.int (0 : Int32)), some (.int (0 : Int32))]) rfl ?_
        obtain ⟨n, h⟩ := h
        exact tX4_leastName_12  hk2 n M a1 (0 : Int32) (0 : Int32) h
def wX4_leastName (M : xM) (Q : Int32 → xM → Prop) : Prop :=
    (∃ n : Nat, lX4_leastName_2  Q n M (0 : Int32))
set_option maxHeartbeats 4000000 in
set_option maxRecDepth 100000 in
theorem tX4_leastName {l : Launch} {E : xE} {M : xM} {Q : Int32 → xM → Prop} (h : wX4_leastName M  Q) : Ct l E mX4_leastName [.ref 50] M (xRi Q) := by
  refine Ct_of (by decide +kernel) rfl (Nat.le_of_ble_eq_true rfl) ?_
  unfold wX4_leastName at h
  show Gx l E mX4_leastName (xRi Q) 0 M [some (.ref 50), none, none, none] []
  refine Gx_run (es := eX4_leastName_0) (P := []) (M' := M) (L' := [some (.ref 50), some (.int (0 : Int32)), none, none]) (st' := []) (pc' := 2) kX4_leastName_0 rfl trivial rfl ?_
  refine Gx_mask [true, true, false, false] (L' := [some (.ref 50), some (.int (0 : Int32)), none, none]) rfl ?_
  obtain ⟨n, h⟩ := h
  exact tX4_leastName_2  n M (0 : Int32) h
def eX4_lists_0 : List xI := [(.iload_n 0, 1, 0, 0, 0), (.iconst 2, 1, 0, 0, (2))]
theorem kX4_lists_0 : xcode (xmb mX4_lists) (xmo mX4_lists) 0 eX4_lists_0 = true := by decide +kernel
def eX4_lists_9 : List xI := [(.iload_n 0, 1, 0, 0, 0), (.iconst 5, 1, 0, 0, (5))]
theorem kX4_lists_9 : xcode (xmb mX4_lists) (xmo mX4_lists) 9 eX4_lists_9 = true := by decide +kernel
def eX4_lists_19 : List xI := [(.iconst 0, 1, 0, 0, (0))]
theorem kX4_lists_19 : xcode (xmb mX4_lists) (xmo mX4_lists) 19 eX4_lists_19 = true := by decide +kernel
def eX4_lists_14 : List xI := [(.bipush 6, 2, 0, 0, (6))]
theorem kX4_lists_14 : xcode (xmb mX4_lists) (xmo mX4_lists) 14 eX4_lists_14 = true := by decide +kernel
def eX4_lists_5 : List xI := [(.iconst 4, 1, 0, 0, (4))]
theorem kX4_lists_5 : xcode (xmb mX4_lists) (xmo mX4_lists) 5 eX4_lists_5 = true := by decide +kernel
def wX4_lists_20 (p1 : Int32) (Q : Int32 → xM → Prop) (M : xM) (s0 : Int32) : Prop :=
    Q s0 M
set_option maxHeartbeats 4000000 in
set_option maxRecDepth 100000 in
theorem tX4_lists_20 {l : Launch} {E : xE} {p1 : Int32} {Q : Int32 → xM → Prop} (M : xM) (s0 : Int32) (h : wX4_lists_20 p1 Q M s0) : Gx l E mX4_lists (xRi Q) 20 M [none] [.int s0] := by
  unfold wX4_lists_20 at h
  exact Gx_iret (by decide +kernel) rfl rfl ⟨_, rfl, h⟩
def wX4_lists (M : xM) (p1 : Int32) (Q : Int32 → xM → Prop) : Prop :=
    (((¬ p1 = (2 : Int32)) → ((((¬ p1 = (5 : Int32)) → (wX4_lists_20 p1 Q M (0 : Int32))) ∧ ((p1 = (5 : Int32)) → (wX4_lists_20 p1 Q M (6 : Int32)))))) ∧ ((p1 = (2 : Int32)) → (wX4_lists_20 p1 Q M (4 : Int32))))
set_option maxHeartbeats 4000000 in
set_option maxRecDepth 100000 in
theorem tX4_lists {l : Launch} {E : xE} {M : xM} {p1 : Int32} {Q : Int32 → xM → Prop} (h : wX4_lists M p1 Q) : Ct l E mX4_lists [.int p1] M (xRi Q) := by
  refine Ct_of (by decide +kernel) rfl (Nat.le_of_ble_eq_true rfl) ?_
  unfold wX4_lists at h
  show Gx l E mX4_lists (xRi Q) 0 M [some (.int p1)] []
  refine Gx_run (es := eX4_lists_0) (P := []) (M' := M) (L' := [some (.int p1)]) (st' := [.int (2 : Int32), .int p1]) (pc' := 2) kX4_lists_0 rfl trivial rfl ?_
  refine Gx_icmp_ne (off := 7) (tgt := 9) (by decide +kernel) (by decide) (fun z => ?_) (fun z => ?_)
  · have h := h.1 z
    refine Gx_run (es := eX4_lists_9) (P := []) (M' := M) (L' := [some (.int p1)]) (st' := [.int (5 : Int32), .int p1]) (pc' := 11) kX4_lists_9 rfl trivial rfl ?_
    refine Gx_icmp_ne (off := 8) (tgt := 19) (by decide +kernel) (by decide) (fun z => ?_) (fun z => ?_)
    · have h := h.1 z
      refine Gx_run (es := eX4_lists_19) (P := []) (M' := M) (L' := [some (.int p1)]) (st' := [.int (0 : Int32)]) (pc' := 20) kX4_lists_19 rfl trivial rfl ?_
      refine Gx_mask [false] (L' := [none]) rfl ?_
      exact tX4_lists_20  M (0 : Int32) h
    · have h := h.2 z
      refine Gx_run (es := eX4_lists_14) (P := []) (M' := M) (L' := [some (.int p1)]) (st' := [.int (6 : Int32)]) (pc' := 16) kX4_lists_14 rfl trivial rfl ?_
      refine Gx_goto (off := 4) (tgt := 20) (by decide +kernel) (by decide) ?_
      refine Gx_mask [false] (L' := [none]) rfl ?_
      exact tX4_lists_20  M (6 : Int32) h
  · have h := h.2 z
    refine Gx_run (es := eX4_lists_5) (P := []) (M' := M) (L' := [some (.int p1)]) (st' := [.int (4 : Int32)]) (pc' := 6) kX4_lists_5 rfl trivial rfl ?_
    refine Gx_goto (off := 14) (tgt := 20) (by decide +kernel) (by decide) ?_
    refine Gx_mask [false] (L' := [none]) rfl ?_
    exact tX4_lists_20  M (4 : Int32) h
def eX4_lowest_0 : List xI := [(.lload_n 0, 1, 0, 0, 0), (.lstore 5, 2, 0, 0, 0), (.lload_n 2, 1, 0, 0, 0), (.lstore 7, 2, 0, 0, 0)]
theorem kX4_lowest_0 : xcode (xmb mX4_lowest) (xmo mX4_lowest) 0 eX4_lowest_0 = true := by decide +kernel
def eX4_lowest_6 : List xI := [(.lload 7, 2, 0, 0, 0), (.lconst 0, 1, 0, 0, 0), (.lcmp, 1, 0, 0, 0)]
theorem kX4_lowest_6 : xcode (xmb mX4_lowest) (xmo mX4_lowest) 6 eX4_lowest_6 = true := by decide +kernel
def eX4_lowest_31 : List xI := [(.iload 4, 2, 0, 0, 0)]
theorem kX4_lowest_31 : xcode (xmb mX4_lowest) (xmo mX4_lowest) 31 eX4_lowest_31 = true := by decide +kernel
def eX4_lowest_40 : List xI := [(.lload_n 2, 1, 0, 0, 0)]
theorem kX4_lowest_40 : xcode (xmb mX4_lowest) (xmo mX4_lowest) 40 eX4_lowest_40 = true := by decide +kernel
def eX4_lowest_41 : List xI := [(.lload 5, 2, 0, 0, 0), (.ldiv, 1, 0, 0, 0)]
theorem kX4_lowest_41 : xcode (xmb mX4_lowest) (xmo mX4_lowest) 41 eX4_lowest_41 = true := by decide +kernel
def eX4_lowest_36 : List xI := [(.lload_n 0, 1, 0, 0, 0)]
theorem kX4_lowest_36 : xcode (xmb mX4_lowest) (xmo mX4_lowest) 36 eX4_lowest_36 = true := by decide +kernel
def eX4_lowest_13 : List xI := [(.lload 5, 2, 0, 0, 0), (.lload 7, 2, 0, 0, 0), (.lrem, 1, 0, 0, 0), (.lstore 9, 2, 0, 0, 0), (.lload 7, 2, 0, 0, 0), (.lstore 5, 2, 0, 0, 0), (.lload 9, 2, 0, 0, 0), (.lstore 7, 2, 0, 0, 0)]
theorem kX4_lowest_13 : xcode (xmb mX4_lowest) (xmo mX4_lowest) 13 eX4_lowest_13 = true := by decide +kernel
def wX4_lowest_41 (p1 : Int64) (p2 : Int64) (p3 : Int32) (Q : Int64 → xM → Prop) (M : xM) (a5 : Int64) (s0 : Int64) : Prop :=
    (¬ a5 = 0) ∧ Q (s0 / a5) M
set_option maxHeartbeats 4000000 in
set_option maxRecDepth 100000 in
theorem tX4_lowest_41 {l : Launch} {E : xE} {p1 : Int64} {p2 : Int64} {p3 : Int32} {Q : Int64 → xM → Prop} (M : xM) (a5 : Int64) (s0 : Int64) (h : wX4_lowest_41 p1 p2 p3 Q M a5 s0) : Gx l E mX4_lowest (xRj Q) 41 M [none, none, none, none, none, some (.long a5), none, none, none, none, none] [.long s0] := by
  unfold wX4_lowest_41 at h
  obtain ⟨g41_0, h⟩ := h
  refine Gx_run (es := eX4_lowest_41) (P := [¬ a5 = 0]) (M' := M) (L' := [none, none, none, none, none, some (.long a5), none, none, none, none, none]) (st' := [.long (s0 / a5)]) (pc' := 44) kX4_lowest_41 rfl ⟨g41_0, trivial⟩ rfl ?_
  exact Gx_lret (by decide +kernel) rfl ⟨_, rfl, h⟩
def lX4_lowest_6 (p1 : Int64) (p2 : Int64) (p3 : Int32) (Q : Int64 → xM → Prop) : Nat → xM → Int64 → Int64 → Prop
  | 0 => fun _ _ _ => False
  | n + 1 => let k6 := lX4_lowest_6 p1 p2 p3 Q n; fun M a5 a7 =>
    ((((lg_cmp a7 (0 : Int64)) = 0) → ((((¬ p3 = 0) → (wX4_lowest_41 p1 p2 p3 Q M a5 p2)) ∧ ((p3 = 0) → (wX4_lowest_41 p1 p2 p3 Q M a5 p1))))) ∧ ((¬ (lg_cmp a7 (0 : Int64)) = 0) → ((¬ a7 = 0) ∧ k6 M a7 (a5 - a5 / a7 * a7))))
set_option maxHeartbeats 4000000 in
set_option maxRecDepth 100000 in
theorem tX4_lowest_6 {l : Launch} {E : xE} {p1 : Int64} {p2 : Int64} {p3 : Int32} {Q : Int64 → xM → Prop} (n : Nat) : ∀ (M : xM) (a5 : Int64) (a7 : Int64), lX4_lowest_6 p1 p2 p3 Q n M a5 a7 → Gx l E mX4_lowest (xRj Q) 6 M [some (.long p1), none, some (.long p2), none, some (.int p3), some (.long a5), none, some (.long a7), none, none, none] [] := by
  induction n with
  | zero => intro M a5 a7 h; exact h.elim
  | succ n hk6 =>
      intro M a5 a7 h
      unfold lX4_lowest_6 at h
      dsimp only at h
      refine Gx_run (es := eX4_lowest_6) (P := []) (M' := M) (L' := [some (.long p1), none, some (.long p2), none, some (.int p3), some (.long a5), none, some (.long a7), none, none, none]) (st' := [.int (lg_cmp a7 (0 : Int64))]) (pc' := 10) kX4_lowest_6 rfl trivial rfl ?_
      refine Gx_if_eq (off := 21) (tgt := 31) (by decide +kernel) (by decide) (fun z => ?_) (fun z => ?_)
      · have h := h.1 z
        refine Gx_run (es := eX4_lowest_31) (P := []) (M' := M) (L' := [some (.long p1), none, some (.long p2), none, some (.int p3), some (.long a5), none, some (.long a7), none, none, none]) (st' := [.int p3]) (pc' := 33) kX4_lowest_31 rfl trivial rfl ?_
        refine Gx_if_ne (off := 7) (tgt := 40) (by decide +kernel) (by decide) (fun z => ?_) (fun z => ?_)
        · have h := h.1 z
          refine Gx_run (es := eX4_lowest_40) (P := []) (M' := M) (L' := [some (.long p1), none, some (.long p2), none, some (.int p3), some (.long a5), none, some (.long a7), none, none, none]) (st' := [.long p2]) (pc' := 41) kX4_lowest_40 rfl trivial rfl ?_
          refine Gx_mask [false, false, false, false, false, true, false, false, false, false, false] (L' := [none, none, none, none, none, some (.long a5), none, none, none, none, none]) rfl ?_
          exact tX4_lowest_41  M a5 p2 h
        · have h := h.2 z
          refine Gx_run (es := eX4_lowest_36) (P := []) (M' := M) (L' := [some (.long p1), none, some (.long p2), none, some (.int p3), some (.long a5), none, some (.long a7), none, none, none]) (st' := [.long p1]) (pc' := 37) kX4_lowest_36 rfl trivial rfl ?_
          refine Gx_goto (off := 4) (tgt := 41) (by decide +kernel) (by decide) ?_
          refine Gx_mask [false, false, false, false, false, true, false, false, false, false, false] (L' := [none, none, none, none, none, some (.long a5), none, none, none, none, none]) rfl ?_
          exact tX4_lowest_41  M a5 p1 h
      · have h := h.2 z
        obtain ⟨g13_0, h⟩ := h
        refine Gx_run (es := eX4_lowest_13) (P := [¬ a7 = 0]) (M' := M) (L' := [some (.long p1), none, some (.long p2), none, some (.int p3), some (.long a7), none, some (.long (a5 - a5 / a7 * a7)), none, some (.long (a5 - a5 / a7 * a7)), none]) (st' := []) (pc' := 28) kX4_lowest_13 rfl ⟨g13_0, trivial⟩ rfl ?_
        refine Gx_goto (off := -22) (tgt := 6) (by decide +kernel) (by decide) ?_
        refine Gx_mask [true, false, true, false, true, true, false, true, false, false, false] (L' := [some (.long p1), none, some (.long p2), none, some (.int p3), some (.long a7), none, some (.long (a5 - a5 / a7 * a7)), none, none, none]) rfl ?_
        exact hk6 M a7 (a5 - a5 / a7 * a7) h
def wX4_lowest (M : xM) (p1 : Int64) (p2 : Int64) (p3 : Int32) (Q : Int64 → xM → Prop) : Prop :=
    (∃ n : Nat, lX4_lowest_6 p1 p2 p3 Q n M p1 p2)
set_option maxHeartbeats 4000000 in
set_option maxRecDepth 100000 in
theorem tX4_lowest {l : Launch} {E : xE} {M : xM} {p1 : Int64} {p2 : Int64} {p3 : Int32} {Q : Int64 → xM → Prop} (h : wX4_lowest M p1 p2 p3 Q) : Ct l E mX4_lowest [.long p1, .long p2, .int p3] M (xRj Q) := by
  refine Ct_of (by decide +kernel) rfl (Nat.le_of_ble_eq_true rfl) ?_
  unfold wX4_lowest at h
  show Gx l E mX4_lowest (xRj Q) 0 M [some (.long p1), none, some (.long p2), none, some (.int p3), none, none, none, none, none, none] []
  refine Gx_run (es := eX4_lowest_0) (P := []) (M' := M) (L' := [some (.long p1), none, some (.long p2), none, some (.int p3), some (.long p1), none, some (.long p2), none, none, none]) (st' := []) (pc' := 6) kX4_lowest_0 rfl trivial rfl ?_
  refine Gx_mask [true, false, true, false, true, true, false, true, false, false, false] (L' := [some (.long p1), none, some (.long p2), none, some (.int p3), some (.long p1), none, some (.long p2), none, none, none]) rfl ?_
  obtain ⟨n, h⟩ := h
  exact tX4_lowest_6  n M p1 p2 h
def eX4_manyOf_0 : List xI := [(.iconst 0, 1, 0, 0, (0)), (.istore_n 2, 1, 0, 0, 0), (.iconst 0, 1, 0, 0, (0)), (.istore_n 3, 1, 0, 0, 0)]
theorem kX4_manyOf_0 : xcode (xmb mX4_manyOf) (xmo mX4_manyOf) 0 eX4_manyOf_0 = true := by decide +kernel
def eX4_manyOf_4 : List xI := [(.iload_n 3, 1, 0, 0, 0), (.aload_n 0, 1, 0, 0, 0), (.getfield 133, 3, 4, 14, 0)]
theorem kX4_manyOf_4 : xcode (xmb mX4_manyOf) (xmo mX4_manyOf) 4 eX4_manyOf_4 = true := by decide +kernel
def eX4_manyOf_40 : List xI := [(.iload_n 2, 1, 0, 0, 0)]
theorem kX4_manyOf_40 : xcode (xmb mX4_manyOf) (xmo mX4_manyOf) 40 eX4_manyOf_40 = true := by decide +kernel
def eX4_manyOf_12 : List xI := [(.iload_n 2, 1, 0, 0, 0), (.iload_n 1, 1, 0, 0, 0)]
theorem kX4_manyOf_12 : xcode (xmb mX4_manyOf) (xmo mX4_manyOf) 12 eX4_manyOf_12 = true := by decide +kernel
def eX4_manyOf_27 : List xI := [(.iconst 1, 1, 0, 0, (1))]
theorem kX4_manyOf_27 : xcode (xmb mX4_manyOf) (xmo mX4_manyOf) 27 eX4_manyOf_27 = true := by decide +kernel
def eX4_manyOf_32 : List xI := [(.iadd, 1, 0, 0, 0), (.istore_n 2, 1, 0, 0, 0), (.iinc 3 1, 3, 0, 0, (1))]
theorem kX4_manyOf_32 : xcode (xmb mX4_manyOf) (xmo mX4_manyOf) 32 eX4_manyOf_32 = true := by decide +kernel
def eX4_manyOf_17 : List xI := [(.aload_n 0, 1, 0, 0, 0), (.getfield 25, 3, 4, 11, 0), (.iload_n 3, 1, 0, 0, 0), (.iaload, 1, 0, 0, 0), (.iload_n 1, 1, 0, 0, 0)]
theorem kX4_manyOf_17 : xcode (xmb mX4_manyOf) (xmo mX4_manyOf) 17 eX4_manyOf_17 = true := by decide +kernel
def eX4_manyOf_31 : List xI := [(.iconst 0, 1, 0, 0, (0))]
theorem kX4_manyOf_31 : xcode (xmb mX4_manyOf) (xmo mX4_manyOf) 31 eX4_manyOf_31 = true := by decide +kernel
def wX4_manyOf_32 (p1 : Int32) (Q : Int32 → xM → Prop) (k4 : xM → Int32 → Int32 → Prop) (M : xM) (a3 : Int32) (s0 : Int32) (s1 : Int32) : Prop :=
    k4 M (s1 + s0) (a3 + (1 : Int32))
set_option maxHeartbeats 4000000 in
set_option maxRecDepth 100000 in
theorem tX4_manyOf_32 {l : Launch} {E : xE} {p1 : Int32} {Q : Int32 → xM → Prop} {k4 : xM → Int32 → Int32 → Prop} (hk4 : ∀ (M : xM) (a2 : Int32) (a3 : Int32), k4 M a2 a3 → Gx l E mX4_manyOf (xRi Q) 4 M [some (.ref 50), some (.int p1), some (.int a2), some (.int a3)] []) (M : xM) (a3 : Int32) (s0 : Int32) (s1 : Int32) (h : wX4_manyOf_32 p1 Q k4 M a3 s0 s1) : Gx l E mX4_manyOf (xRi Q) 32 M [some (.ref 50), some (.int p1), none, some (.int a3)] [.int s0, .int s1] := by
  unfold wX4_manyOf_32 at h
  refine Gx_run (es := eX4_manyOf_32) (P := []) (M' := M) (L' := [some (.ref 50), some (.int p1), some (.int (s1 + s0)), some (.int (a3 + (1 : Int32)))]) (st' := []) (pc' := 37) kX4_manyOf_32 rfl trivial rfl ?_
  refine Gx_goto (off := -33) (tgt := 4) (by decide +kernel) (by decide) ?_
  refine Gx_mask [true, true, true, true] (L' := [some (.ref 50), some (.int p1), some (.int (s1 + s0)), some (.int (a3 + (1 : Int32)))]) rfl ?_
  exact hk4 M (s1 + s0) (a3 + (1 : Int32)) h
def wX4_manyOf_27 (p1 : Int32) (Q : Int32 → xM → Prop) (k4 : xM → Int32 → Int32 → Prop) (M : xM) (a3 : Int32) (s0 : Int32) : Prop :=
    wX4_manyOf_32 p1 Q k4 M a3 (1 : Int32) s0
set_option maxHeartbeats 4000000 in
set_option maxRecDepth 100000 in
theorem tX4_manyOf_27 {l : Launch} {E : xE} {p1 : Int32} {Q : Int32 → xM → Prop} {k4 : xM → Int32 → Int32 → Prop} (hk4 : ∀ (M : xM) (a2 : Int32) (a3 : Int32), k4 M a2 a3 → Gx l E mX4_manyOf (xRi Q) 4 M [some (.ref 50), some (.int p1), some (.int a2), some (.int a3)] []) (M : xM) (a3 : Int32) (s0 : Int32) (h : wX4_manyOf_27 p1 Q k4 M a3 s0) : Gx l E mX4_manyOf (xRi Q) 27 M [some (.ref 50), some (.int p1), none, some (.int a3)] [.int s0] := by
  unfold wX4_manyOf_27 at h
  refine Gx_run (es := eX4_manyOf_27) (P := []) (M' := M) (L' := [some (.ref 50), some (.int p1), none, some (.int a3)]) (st' := [.int (1 : Int32), .int s0]) (pc' := 28) kX4_manyOf_27 rfl trivial rfl ?_
  refine Gx_goto (off := 4) (tgt := 32) (by decide +kernel) (by decide) ?_
  refine Gx_mask [true, true, false, true] (L' := [some (.ref 50), some (.int p1), none, some (.int a3)]) rfl ?_
  exact tX4_manyOf_32  hk4 M a3 (1 : Int32) s0 h
def lX4_manyOf_4 (p1 : Int32) (Q : Int32 → xM → Prop) : Nat → xM → Int32 → Int32 → Prop
  | 0 => fun _ _ _ => False
  | n + 1 => let k4 := lX4_manyOf_4 p1 Q n; fun M a2 a3 =>
    ((((M 50 14) ≤ a3) → (Q a2 M)) ∧ ((¬ (M 50 14) ≤ a3) → ((((p1 = 0) → (wX4_manyOf_27 p1 Q k4 M a3 a2)) ∧ ((¬ p1 = 0) → ((vp_in a3 400) ∧ (((¬ (M 56 a3.toNatClampNeg) = p1) → (wX4_manyOf_32 p1 Q k4 M a3 (0 : Int32) a2)) ∧ (((M 56 a3.toNatClampNeg) = p1) → (wX4_manyOf_27 p1 Q k4 M a3 a2)))))))))
set_option maxHeartbeats 4000000 in
set_option maxRecDepth 100000 in
theorem tX4_manyOf_4 {l : Launch} {E : xE} {p1 : Int32} {Q : Int32 → xM → Prop} (n : Nat) : ∀ (M : xM) (a2 : Int32) (a3 : Int32), lX4_manyOf_4 p1 Q n M a2 a3 → Gx l E mX4_manyOf (xRi Q) 4 M [some (.ref 50), some (.int p1), some (.int a2), some (.int a3)] [] := by
  induction n with
  | zero => intro M a2 a3 h; exact h.elim
  | succ n hk4 =>
      intro M a2 a3 h
      unfold lX4_manyOf_4 at h
      dsimp only at h
      refine Gx_run (es := eX4_manyOf_4) (P := [xkd 50 = 4]) (M' := M) (L' := [some (.ref 50), some (.int p1), some (.int a2), some (.int a3)]) (st' := [.int (M 50 14), .int a3]) (pc' := 9) kX4_manyOf_4 rfl ⟨rfl, trivial⟩ rfl ?_
      refine Gx_icmp_ge (off := 31) (tgt := 40) (by decide +kernel) (by decide) (fun z => ?_) (fun z => ?_)
      · have h := h.1 z
        refine Gx_run (es := eX4_manyOf_40) (P := []) (M' := M) (L' := [some (.ref 50), some (.int p1), some (.int a2), some (.int a3)]) (st' := [.int a2]) (pc' := 41) kX4_manyOf_40 rfl trivial rfl ?_
        exact Gx_iret (by decide +kernel) rfl rfl ⟨_, rfl, h⟩
      · have h := h.2 z
        refine Gx_run (es := eX4_manyOf_12) (P := []) (M' := M) (L' := [some (.ref 50), some (.int p1), some (.int a2), some (.int a3)]) (st' := [.int p1, .int a2]) (pc' := 14) kX4_manyOf_12 rfl trivial rfl ?_
        refine Gx_if_eq (off := 13) (tgt := 27) (by decide +kernel) (by decide) (fun z => ?_) (fun z => ?_)
        · have h := h.1 z
          refine Gx_mask [true, true, false, true] (L' := [some (.ref 50), some (.int p1), none, some (.int a3)]) rfl ?_
          exact tX4_manyOf_27  hk4 M a3 a2 h
        · have h := h.2 z
          obtain ⟨g17_0, h⟩ := h
          refine Gx_run (es := eX4_manyOf_17) (P := [xkd 50 = 4, xkd 56 = 5, vp_in a3 (xln 56)]) (M' := M) (L' := [some (.ref 50), some (.int p1), some (.int a2), some (.int a3)]) (st' := [.int p1, .int (M 56 a3.toNatClampNeg), .int a2]) (pc' := 24) kX4_manyOf_17 rfl ⟨rfl, rfl, g17_0, trivial⟩ rfl ?_
          refine Gx_icmp_ne (off := 7) (tgt := 31) (by decide +kernel) (by decide) (fun z => ?_) (fun z => ?_)
          · have h := h.1 z
            refine Gx_run (es := eX4_manyOf_31) (P := []) (M' := M) (L' := [some (.ref 50), some (.int p1), some (.int a2), some (.int a3)]) (st' := [.int (0 : Int32), .int a2]) (pc' := 32) kX4_manyOf_31 rfl trivial rfl ?_
            refine Gx_mask [true, true, false, true] (L' := [some (.ref 50), some (.int p1), none, some (.int a3)]) rfl ?_
            exact tX4_manyOf_32  hk4 M a3 (0 : Int32) a2 h
          · have h := h.2 z
            refine Gx_mask [true, true, false, true] (L' := [some (.ref 50), some (.int p1), none, some (.int a3)]) rfl ?_
            exact tX4_manyOf_27  hk4 M a3 a2 h
def wX4_manyOf (M : xM) (p1 : Int32) (Q : Int32 → xM → Prop) : Prop :=
    (∃ n : Nat, lX4_manyOf_4 p1 Q n M (0 : Int32) (0 : Int32))
set_option maxHeartbeats 4000000 in
set_option maxRecDepth 100000 in
theorem tX4_manyOf {l : Launch} {E : xE} {M : xM} {p1 : Int32} {Q : Int32 → xM → Prop} (h : wX4_manyOf M p1 Q) : Ct l E mX4_manyOf [.ref 50, .int p1] M (xRi Q) := by
  refine Ct_of (by decide +kernel) rfl (Nat.le_of_ble_eq_true rfl) ?_
  unfold wX4_manyOf at h
  show Gx l E mX4_manyOf (xRi Q) 0 M [some (.ref 50), some (.int p1), none, none] []
  refine Gx_run (es := eX4_manyOf_0) (P := []) (M' := M) (L' := [some (.ref 50), some (.int p1), some (.int (0 : Int32)), some (.int (0 : Int32))]) (st' := []) (pc' := 4) kX4_manyOf_0 rfl trivial rfl ?_
  refine Gx_mask [true, true, true, true] (L' := [some (.ref 50), some (.int p1), some (.int (0 : Int32)), some (.int (0 : Int32))]) rfl ?_
  obtain ⟨n, h⟩ := h
  exact tX4_manyOf_4  n M (0 : Int32) (0 : Int32) h
def eX4_must_0 : List xI := [(.aload_n 0, 1, 0, 0, 0), (.getfield 68, 3, 4, 9, 0)]
theorem kX4_must_0 : xcode (xmb mX4_must) (xmo mX4_must) 0 eX4_must_0 = true := by decide +kernel
def eX4_must_7 : List xI := [(.iload_n 1, 1, 0, 0, 0)]
theorem kX4_must_7 : xcode (xmb mX4_must) (xmo mX4_must) 7 eX4_must_7 = true := by decide +kernel
def eX4_must_11 : List xI := [(.aload_n 0, 1, 0, 0, 0), (.getfield 87, 3, 4, 10, 0), (.iconst (-1), 1, 0, 0, (-1))]
theorem kX4_must_11 : xcode (xmb mX4_must) (xmo mX4_must) 11 eX4_must_11 = true := by decide +kernel
def eX4_must_19 : List xI := [(.aload_n 0, 1, 0, 0, 0), (.iload_n 2, 1, 0, 0, 0), (.putfield 87, 3, 4, 10, 0)]
theorem kX4_must_19 : xcode (xmb mX4_must) (xmo mX4_must) 19 eX4_must_19 = true := by decide +kernel
def wX4_must_24 (p1 : Int32) (p2 : Int32) (Q : xM → Prop) (M : xM) : Prop :=
    Q M
set_option maxHeartbeats 4000000 in
set_option maxRecDepth 100000 in
theorem tX4_must_24 {l : Launch} {E : xE} {p1 : Int32} {p2 : Int32} {Q : xM → Prop} (M : xM) (h : wX4_must_24 p1 p2 Q M ) : Gx l E mX4_must (xRv Q) 24 M [none, none, none] [] := by
  unfold wX4_must_24 at h
  exact Gx_vret (by decide +kernel) rfl ⟨rfl, h⟩
def wX4_must (M : xM) (p1 : Int32) (p2 : Int32) (Q : xM → Prop) : Prop :=
    (((¬ (M 50 9) = 0) → (wX4_must_24 p1 p2 Q M)) ∧ (((M 50 9) = 0) → ((((¬ p1 = 0) → (wX4_must_24 p1 p2 Q M)) ∧ ((p1 = 0) → ((((¬ (M 50 10) = (-1 : Int32)) → (wX4_must_24 p1 p2 Q M)) ∧ (((M 50 10) = (-1 : Int32)) → (wX4_must_24 p1 p2 Q (xup M 50 10 p2))))))))))
set_option maxHeartbeats 4000000 in
set_option maxRecDepth 100000 in
theorem tX4_must {l : Launch} {E : xE} {M : xM} {p1 : Int32} {p2 : Int32} {Q : xM → Prop} (h : wX4_must M p1 p2 Q) : Ct l E mX4_must [.ref 50, .int p1, .int p2] M (xRv Q) := by
  refine Ct_of (by decide +kernel) rfl (Nat.le_of_ble_eq_true rfl) ?_
  unfold wX4_must at h
  show Gx l E mX4_must (xRv Q) 0 M [some (.ref 50), some (.int p1), some (.int p2)] []
  refine Gx_run (es := eX4_must_0) (P := [xkd 50 = 4]) (M' := M) (L' := [some (.ref 50), some (.int p1), some (.int p2)]) (st' := [.int (M 50 9)]) (pc' := 4) kX4_must_0 rfl ⟨rfl, trivial⟩ rfl ?_
  refine Gx_if_ne (off := 20) (tgt := 24) (by decide +kernel) (by decide) (fun z => ?_) (fun z => ?_)
  · have h := h.1 z
    refine Gx_mask [false, false, false] (L' := [none, none, none]) rfl ?_
    exact tX4_must_24  M h
  · have h := h.2 z
    refine Gx_run (es := eX4_must_7) (P := []) (M' := M) (L' := [some (.ref 50), some (.int p1), some (.int p2)]) (st' := [.int p1]) (pc' := 8) kX4_must_7 rfl trivial rfl ?_
    refine Gx_if_ne (off := 16) (tgt := 24) (by decide +kernel) (by decide) (fun z => ?_) (fun z => ?_)
    · have h := h.1 z
      refine Gx_mask [false, false, false] (L' := [none, none, none]) rfl ?_
      exact tX4_must_24  M h
    · have h := h.2 z
      refine Gx_run (es := eX4_must_11) (P := [xkd 50 = 4]) (M' := M) (L' := [some (.ref 50), some (.int p1), some (.int p2)]) (st' := [.int (-1 : Int32), .int (M 50 10)]) (pc' := 16) kX4_must_11 rfl ⟨rfl, trivial⟩ rfl ?_
      refine Gx_icmp_ne (off := 8) (tgt := 24) (by decide +kernel) (by decide) (fun z => ?_) (fun z => ?_)
      · have h := h.1 z
        refine Gx_mask [false, false, false] (L' := [none, none, none]) rfl ?_
        exact tX4_must_24  M h
      · have h := h.2 z
        refine Gx_run (es := eX4_must_19) (P := [xkd 50 = 4]) (M' := (xup M 50 10 p2)) (L' := [some (.ref 50), some (.int p1), some (.int p2)]) (st' := []) (pc' := 24) kX4_must_19 rfl ⟨rfl, trivial⟩ rfl ?_
        refine Gx_mask [false, false, false] (L' := [none, none, none]) rfl ?_
        exact tX4_must_24  (xup M 50 10 p2) h
def eX4_pointerOf_0 : List xI := [(.aload_n 0, 1, 0, 0, 0), (.getfield 7, 3, 4, 1, 0), (.bipush 30, 2, 0, 0, (30)), (.iconst 3, 1, 0, 0, (3)), (.iload_n 1, 1, 0, 0, 0), (.imul, 1, 0, 0, 0), (.iadd, 1, 0, 0, 0), (.iload_n 2, 1, 0, 0, 0), (.iadd, 1, 0, 0, 0), (.iaload, 1, 0, 0, 0), (.istore_n 3, 1, 0, 0, 0), (.iload_n 3, 1, 0, 0, 0), (.bipush 99, 2, 0, 0, (99))]
theorem kX4_pointerOf_0 : xcode (xmb mX4_pointerOf) (xmo mX4_pointerOf) 0 eX4_pointerOf_0 = true := by decide +kernel
def eX4_pointerOf_25 : List xI := [(.iload_n 3, 1, 0, 0, 0)]
theorem kX4_pointerOf_25 : xcode (xmb mX4_pointerOf) (xmo mX4_pointerOf) 25 eX4_pointerOf_25 = true := by decide +kernel
def eX4_pointerOf_20 : List xI := [(.bipush (-9), 2, 0, 0, (-9))]
theorem kX4_pointerOf_20 : xcode (xmb mX4_pointerOf) (xmo mX4_pointerOf) 20 eX4_pointerOf_20 = true := by decide +kernel
def wX4_pointerOf_26 (p1 : Int32) (p2 : Int32) (Q : Int32 → xM → Prop) (M : xM) (s0 : Int32) : Prop :=
    Q s0 M
set_option maxHeartbeats 4000000 in
set_option maxRecDepth 100000 in
theorem tX4_pointerOf_26 {l : Launch} {E : xE} {p1 : Int32} {p2 : Int32} {Q : Int32 → xM → Prop} (M : xM) (s0 : Int32) (h : wX4_pointerOf_26 p1 p2 Q M s0) : Gx l E mX4_pointerOf (xRi Q) 26 M [none, none, none, none] [.int s0] := by
  unfold wX4_pointerOf_26 at h
  exact Gx_iret (by decide +kernel) rfl rfl ⟨_, rfl, h⟩
def wX4_pointerOf (M : xM) (p1 : Int32) (p2 : Int32) (Q : Int32 → xM → Prop) : Prop :=
    (vp_in (((30 : Int32) + ((3 : Int32) * p1)) + p2) 147) ∧ (((¬ (M 51 (((30 : Int32) + ((3 : Int32) * p1)) + p2).toNatClampNeg) = (99 : Int32)) → (wX4_pointerOf_26 p1 p2 Q M (M 51 (((30 : Int32) + ((3 : Int32) * p1)) + p2).toNatClampNeg))) ∧ (((M 51 (((30 : Int32) + ((3 : Int32) * p1)) + p2).toNatClampNeg) = (99 : Int32)) → (wX4_pointerOf_26 p1 p2 Q M (-9 : Int32))))
set_option maxHeartbeats 4000000 in
set_option maxRecDepth 100000 in
theorem tX4_pointerOf {l : Launch} {E : xE} {M : xM} {p1 : Int32} {p2 : Int32} {Q : Int32 → xM → Prop} (h : wX4_pointerOf M p1 p2 Q) : Ct l E mX4_pointerOf [.ref 50, .int p1, .int p2] M (xRi Q) := by
  refine Ct_of (by decide +kernel) rfl (Nat.le_of_ble_eq_true rfl) ?_
  unfold wX4_pointerOf at h
  show Gx l E mX4_pointerOf (xRi Q) 0 M [some (.ref 50), some (.int p1), some (.int p2), none] []
  obtain ⟨g0_0, h⟩ := h
  refine Gx_run (es := eX4_pointerOf_0) (P := [xkd 50 = 4, xkd 51 = 5, vp_in (((30 : Int32) + ((3 : Int32) * p1)) + p2) (xln 51)]) (M' := M) (L' := [some (.ref 50), some (.int p1), some (.int p2), some (.int (M 51 (((30 : Int32) + ((3 : Int32) * p1)) + p2).toNatClampNeg))]) (st' := [.int (99 : Int32), .int (M 51 (((30 : Int32) + ((3 : Int32) * p1)) + p2).toNatClampNeg)]) (pc' := 17) kX4_pointerOf_0 rfl ⟨rfl, rfl, g0_0, trivial⟩ rfl ?_
  refine Gx_icmp_ne (off := 8) (tgt := 25) (by decide +kernel) (by decide) (fun z => ?_) (fun z => ?_)
  · have h := h.1 z
    refine Gx_run (es := eX4_pointerOf_25) (P := []) (M' := M) (L' := [some (.ref 50), some (.int p1), some (.int p2), some (.int (M 51 (((30 : Int32) + ((3 : Int32) * p1)) + p2).toNatClampNeg))]) (st' := [.int (M 51 (((30 : Int32) + ((3 : Int32) * p1)) + p2).toNatClampNeg)]) (pc' := 26) kX4_pointerOf_25 rfl trivial rfl ?_
    refine Gx_mask [false, false, false, false] (L' := [none, none, none, none]) rfl ?_
    exact tX4_pointerOf_26  M (M 51 (((30 : Int32) + ((3 : Int32) * p1)) + p2).toNatClampNeg) h
  · have h := h.2 z
    refine Gx_run (es := eX4_pointerOf_20) (P := []) (M' := M) (L' := [some (.ref 50), some (.int p1), some (.int p2), some (.int (M 51 (((30 : Int32) + ((3 : Int32) * p1)) + p2).toNatClampNeg))]) (st' := [.int (-9 : Int32)]) (pc' := 22) kX4_pointerOf_20 rfl trivial rfl ?_
    refine Gx_goto (off := 4) (tgt := 26) (by decide +kernel) (by decide) ?_
    refine Gx_mask [false, false, false, false] (L' := [none, none, none, none]) rfl ?_
    exact tX4_pointerOf_26  M (-9 : Int32) h
def eX4_pointersTo_0 : List xI := [(.iconst 0, 1, 0, 0, (0)), (.istore_n 2, 1, 0, 0, 0), (.iconst 0, 1, 0, 0, (0)), (.istore_n 3, 1, 0, 0, 0)]
theorem kX4_pointersTo_0 : xcode (xmb mX4_pointersTo) (xmo mX4_pointersTo) 0 eX4_pointersTo_0 = true := by decide +kernel
def eX4_pointersTo_4 : List xI := [(.iload_n 3, 1, 0, 0, 0), (.bipush 30, 2, 0, 0, (30))]
theorem kX4_pointersTo_4 : xcode (xmb mX4_pointersTo) (xmo mX4_pointersTo) 4 eX4_pointersTo_4 = true := by decide +kernel
def eX4_pointersTo_37 : List xI := [(.iload_n 2, 1, 0, 0, 0)]
theorem kX4_pointersTo_37 : xcode (xmb mX4_pointersTo) (xmo mX4_pointersTo) 37 eX4_pointersTo_37 = true := by decide +kernel
def eX4_pointersTo_10 : List xI := [(.iload_n 2, 1, 0, 0, 0), (.aload_n 0, 1, 0, 0, 0), (.getfield 7, 3, 4, 1, 0), (.bipush 30, 2, 0, 0, (30)), (.iload_n 3, 1, 0, 0, 0), (.iadd, 1, 0, 0, 0), (.iaload, 1, 0, 0, 0), (.iload_n 1, 1, 0, 0, 0)]
theorem kX4_pointersTo_10 : xcode (xmb mX4_pointersTo) (xmo mX4_pointersTo) 10 eX4_pointersTo_10 = true := by decide +kernel
def eX4_pointersTo_28 : List xI := [(.iconst 0, 1, 0, 0, (0))]
theorem kX4_pointersTo_28 : xcode (xmb mX4_pointersTo) (xmo mX4_pointersTo) 28 eX4_pointersTo_28 = true := by decide +kernel
def eX4_pointersTo_29 : List xI := [(.iadd, 1, 0, 0, 0), (.istore_n 2, 1, 0, 0, 0), (.iinc 3 1, 3, 0, 0, (1))]
theorem kX4_pointersTo_29 : xcode (xmb mX4_pointersTo) (xmo mX4_pointersTo) 29 eX4_pointersTo_29 = true := by decide +kernel
def eX4_pointersTo_24 : List xI := [(.iconst 1, 1, 0, 0, (1))]
theorem kX4_pointersTo_24 : xcode (xmb mX4_pointersTo) (xmo mX4_pointersTo) 24 eX4_pointersTo_24 = true := by decide +kernel
def wX4_pointersTo_29 (p1 : Int32) (Q : Int32 → xM → Prop) (k4 : xM → Int32 → Int32 → Prop) (M : xM) (a3 : Int32) (s0 : Int32) (s1 : Int32) : Prop :=
    k4 M (s1 + s0) (a3 + (1 : Int32))
set_option maxHeartbeats 4000000 in
set_option maxRecDepth 100000 in
theorem tX4_pointersTo_29 {l : Launch} {E : xE} {p1 : Int32} {Q : Int32 → xM → Prop} {k4 : xM → Int32 → Int32 → Prop} (hk4 : ∀ (M : xM) (a2 : Int32) (a3 : Int32), k4 M a2 a3 → Gx l E mX4_pointersTo (xRi Q) 4 M [some (.ref 50), some (.int p1), some (.int a2), some (.int a3)] []) (M : xM) (a3 : Int32) (s0 : Int32) (s1 : Int32) (h : wX4_pointersTo_29 p1 Q k4 M a3 s0 s1) : Gx l E mX4_pointersTo (xRi Q) 29 M [some (.ref 50), some (.int p1), none, some (.int a3)] [.int s0, .int s1] := by
  unfold wX4_pointersTo_29 at h
  refine Gx_run (es := eX4_pointersTo_29) (P := []) (M' := M) (L' := [some (.ref 50), some (.int p1), some (.int (s1 + s0)), some (.int (a3 + (1 : Int32)))]) (st' := []) (pc' := 34) kX4_pointersTo_29 rfl trivial rfl ?_
  refine Gx_goto (off := -30) (tgt := 4) (by decide +kernel) (by decide) ?_
  refine Gx_mask [true, true, true, true] (L' := [some (.ref 50), some (.int p1), some (.int (s1 + s0)), some (.int (a3 + (1 : Int32)))]) rfl ?_
  exact hk4 M (s1 + s0) (a3 + (1 : Int32)) h
def lX4_pointersTo_4 (p1 : Int32) (Q : Int32 → xM → Prop) : Nat → xM → Int32 → Int32 → Prop
  | 0 => fun _ _ _ => False
  | n + 1 => let k4 := lX4_pointersTo_4 p1 Q n; fun M a2 a3 =>
    ((((30 : Int32) ≤ a3) → (Q a2 M)) ∧ ((¬ (30 : Int32) ≤ a3) → ((vp_in ((30 : Int32) + a3) 147) ∧ (((¬ (M 51 ((30 : Int32) + a3).toNatClampNeg) = p1) → (wX4_pointersTo_29 p1 Q k4 M a3 (0 : Int32) a2)) ∧ (((M 51 ((30 : Int32) + a3).toNatClampNeg) = p1) → (wX4_pointersTo_29 p1 Q k4 M a3 (1 : Int32) a2))))))
set_option maxHeartbeats 4000000 in
set_option maxRecDepth 100000 in
theorem tX4_pointersTo_4 {l : Launch} {E : xE} {p1 : Int32} {Q : Int32 → xM → Prop} (n : Nat) : ∀ (M : xM) (a2 : Int32) (a3 : Int32), lX4_pointersTo_4 p1 Q n M a2 a3 → Gx l E mX4_pointersTo (xRi Q) 4 M [some (.ref 50), some (.int p1), some (.int a2), some (.int a3)] [] := by
  induction n with
  | zero => intro M a2 a3 h; exact h.elim
  | succ n hk4 =>
      intro M a2 a3 h
      unfold lX4_pointersTo_4 at h
      dsimp only at h
      refine Gx_run (es := eX4_pointersTo_4) (P := []) (M' := M) (L' := [some (.ref 50), some (.int p1), some (.int a2), some (.int a3)]) (st' := [.int (30 : Int32), .int a3]) (pc' := 7) kX4_pointersTo_4 rfl trivial rfl ?_
      refine Gx_icmp_ge (off := 30) (tgt := 37) (by decide +kernel) (by decide) (fun z => ?_) (fun z => ?_)
      · have h := h.1 z
        refine Gx_run (es := eX4_pointersTo_37) (P := []) (M' := M) (L' := [some (.ref 50), some (.int p1), some (.int a2), some (.int a3)]) (st' := [.int a2]) (pc' := 38) kX4_pointersTo_37 rfl trivial rfl ?_
        exact Gx_iret (by decide +kernel) rfl rfl ⟨_, rfl, h⟩
      · have h := h.2 z
        obtain ⟨g10_0, h⟩ := h
        refine Gx_run (es := eX4_pointersTo_10) (P := [xkd 50 = 4, xkd 51 = 5, vp_in ((30 : Int32) + a3) (xln 51)]) (M' := M) (L' := [some (.ref 50), some (.int p1), some (.int a2), some (.int a3)]) (st' := [.int p1, .int (M 51 ((30 : Int32) + a3).toNatClampNeg), .int a2]) (pc' := 21) kX4_pointersTo_10 rfl ⟨rfl, rfl, g10_0, trivial⟩ rfl ?_
        refine Gx_icmp_ne (off := 7) (tgt := 28) (by decide +kernel) (by decide) (fun z => ?_) (fun z => ?_)
        · have h := h.1 z
          refine Gx_run (es := eX4_pointersTo_28) (P := []) (M' := M) (L' := [some (.ref 50), some (.int p1), some (.int a2), some (.int a3)]) (st' := [.int (0 : Int32), .int a2]) (pc' := 29) kX4_pointersTo_28 rfl trivial rfl ?_
          refine Gx_mask [true, true, false, true] (L' := [some (.ref 50), some (.int p1), none, some (.int a3)]) rfl ?_
          exact tX4_pointersTo_29  hk4 M a3 (0 : Int32) a2 h
        · have h := h.2 z
          refine Gx_run (es := eX4_pointersTo_24) (P := []) (M' := M) (L' := [some (.ref 50), some (.int p1), some (.int a2), some (.int a3)]) (st' := [.int (1 : Int32), .int a2]) (pc' := 25) kX4_pointersTo_24 rfl trivial rfl ?_
          refine Gx_goto (off := 4) (tgt := 29) (by decide +kernel) (by decide) ?_
          refine Gx_mask [true, true, false, true] (L' := [some (.ref 50), some (.int p1), none, some (.int a3)]) rfl ?_
          exact tX4_pointersTo_29  hk4 M a3 (1 : Int32) a2 h
def wX4_pointersTo (M : xM) (p1 : Int32) (Q : Int32 → xM → Prop) : Prop :=
    (∃ n : Nat, lX4_pointersTo_4 p1 Q n M (0 : Int32) (0 : Int32))
set_option maxHeartbeats 4000000 in
set_option maxRecDepth 100000 in
theorem tX4_pointersTo {l : Launch} {E : xE} {M : xM} {p1 : Int32} {Q : Int32 → xM → Prop} (h : wX4_pointersTo M p1 Q) : Ct l E mX4_pointersTo [.ref 50, .int p1] M (xRi Q) := by
  refine Ct_of (by decide +kernel) rfl (Nat.le_of_ble_eq_true rfl) ?_
  unfold wX4_pointersTo at h
  show Gx l E mX4_pointersTo (xRi Q) 0 M [some (.ref 50), some (.int p1), none, none] []
  refine Gx_run (es := eX4_pointersTo_0) (P := []) (M' := M) (L' := [some (.ref 50), some (.int p1), some (.int (0 : Int32)), some (.int (0 : Int32))]) (st' := []) (pc' := 4) kX4_pointersTo_0 rfl trivial rfl ?_
  refine Gx_mask [true, true, true, true] (L' := [some (.ref 50), some (.int p1), some (.int (0 : Int32)), some (.int (0 : Int32))]) rfl ?_
  obtain ⟨n, h⟩ := h
  exact tX4_pointersTo_4  n M (0 : Int32) (0 : Int32) h
def eX4_refused_0 : List xI := [(.aload_n 0, 1, 0, 0, 0), (.getfield 19, 3, 4, 5, 0), (.bipush 10, 2, 0, 0, (10)), (.iload_n 1, 1, 0, 0, 0), (.isub, 1, 0, 0, 0), (.dup2, 1, 0, 0, 0), (.iaload, 1, 0, 0, 0), (.iconst 1, 1, 0, 0, (1)), (.iadd, 1, 0, 0, 0), (.iastore, 1, 0, 0, 0), (.iload_n 1, 1, 0, 0, 0)]
theorem kX4_refused_0 : xcode (xmb mX4_refused) (xmo mX4_refused) 0 eX4_refused_0 = true := by decide +kernel
def wX4_refused (M : xM) (p1 : Int32) (Q : Int32 → xM → Prop) : Prop :=
    (vp_in ((10 : Int32) - p1) 17) ∧ Q p1 (xup M 54 ((10 : Int32) - p1).toNatClampNeg ((M 54 ((10 : Int32) - p1).toNatClampNeg) + (1 : Int32)))
set_option maxHeartbeats 4000000 in
set_option maxRecDepth 100000 in
theorem tX4_refused {l : Launch} {E : xE} {M : xM} {p1 : Int32} {Q : Int32 → xM → Prop} (h : wX4_refused M p1 Q) : Ct l E mX4_refused [.ref 50, .int p1] M (xRi Q) := by
  refine Ct_of (by decide +kernel) rfl (Nat.le_of_ble_eq_true rfl) ?_
  unfold wX4_refused at h
  show Gx l E mX4_refused (xRi Q) 0 M [some (.ref 50), some (.int p1)] []
  obtain ⟨g0_0, h⟩ := h
  refine Gx_run (es := eX4_refused_0) (P := [xkd 50 = 4, xkd 54 = 5, vp_in ((10 : Int32) - p1) (xln 54), xkd 54 = 5, vp_in ((10 : Int32) - p1) (xln 54)]) (M' := (xup M 54 ((10 : Int32) - p1).toNatClampNeg ((M 54 ((10 : Int32) - p1).toNatClampNeg) + (1 : Int32)))) (L' := [some (.ref 50), some (.int p1)]) (st' := [.int p1]) (pc' := 14) kX4_refused_0 rfl ⟨rfl, rfl, g0_0, rfl, g0_0, trivial⟩ rfl ?_
  exact Gx_iret (by decide +kernel) rfl rfl ⟨_, rfl, h⟩
def eX4_refusedLong_0 : List xI := [(.aload_n 0, 1, 0, 0, 0), (.getfield 19, 3, 4, 5, 0), (.bipush 10, 2, 0, 0, (10)), (.iload_n 1, 1, 0, 0, 0), (.isub, 1, 0, 0, 0), (.dup2, 1, 0, 0, 0), (.iaload, 1, 0, 0, 0), (.iconst 1, 1, 0, 0, (1)), (.iadd, 1, 0, 0, 0), (.iastore, 1, 0, 0, 0), (.ldc2_w 41, 3, 0, 0, 0), (.iload_n 1, 1, 0, 0, 0), (.i2l, 1, 0, 0, 0), (.lsub, 1, 0, 0, 0)]
theorem kX4_refusedLong_0 : xcode (xmb mX4_refusedLong) (xmo mX4_refusedLong) 0 eX4_refusedLong_0 = true := by decide +kernel
def wX4_refusedLong (M : xM) (p1 : Int32) (Q : Int64 → xM → Prop) : Prop :=
    (vp_in ((10 : Int32) - p1) 17) ∧ Q ((4000000000000000000 : Int64) - p1.toInt64) (xup M 54 ((10 : Int32) - p1).toNatClampNeg ((M 54 ((10 : Int32) - p1).toNatClampNeg) + (1 : Int32)))
set_option maxHeartbeats 4000000 in
set_option maxRecDepth 100000 in
theorem tX4_refusedLong {l : Launch} {E : xE} {M : xM} {p1 : Int32} {Q : Int64 → xM → Prop} (h : wX4_refusedLong M p1 Q) : Ct l E mX4_refusedLong [.ref 50, .int p1] M (xRj Q) := by
  refine Ct_of (by decide +kernel) rfl (Nat.le_of_ble_eq_true rfl) ?_
  unfold wX4_refusedLong at h
  show Gx l E mX4_refusedLong (xRj Q) 0 M [some (.ref 50), some (.int p1)] []
  obtain ⟨g0_0, h⟩ := h
  refine Gx_run (es := eX4_refusedLong_0) (P := [xkd 50 = 4, xkd 54 = 5, vp_in ((10 : Int32) - p1) (xln 54), xkd 54 = 5, vp_in ((10 : Int32) - p1) (xln 54)]) (M' := (xup M 54 ((10 : Int32) - p1).toNatClampNeg ((M 54 ((10 : Int32) - p1).toNatClampNeg) + (1 : Int32)))) (L' := [some (.ref 50), some (.int p1)]) (st' := [.long ((4000000000000000000 : Int64) - p1.toInt64)]) (pc' := 19) kX4_refusedLong_0 rfl ⟨rfl, rfl, g0_0, rfl, g0_0, trivial⟩ rfl ?_
  exact Gx_lret (by decide +kernel) rfl ⟨_, rfl, h⟩
def eX4_slotOf_0 : List xI := [(.aload_n 0, 1, 0, 0, 0), (.getfield 7, 3, 4, 1, 0), (.bipush 60, 2, 0, 0, (60)), (.bipush 6, 2, 0, 0, (6)), (.iload_n 1, 1, 0, 0, 0), (.imul, 1, 0, 0, 0), (.iadd, 1, 0, 0, 0), (.iload_n 2, 1, 0, 0, 0), (.iadd, 1, 0, 0, 0), (.iaload, 1, 0, 0, 0), (.istore_n 3, 1, 0, 0, 0), (.iload_n 3, 1, 0, 0, 0), (.iconst (-1), 1, 0, 0, (-1))]
theorem kX4_slotOf_0 : xcode (xmb mX4_slotOf) (xmo mX4_slotOf) 0 eX4_slotOf_0 = true := by decide +kernel
def eX4_slotOf_25 : List xI := [(.iload_n 3, 1, 0, 0, 0)]
theorem kX4_slotOf_25 : xcode (xmb mX4_slotOf) (xmo mX4_slotOf) 25 eX4_slotOf_25 = true := by decide +kernel
def eX4_slotOf_20 : List xI := [(.bipush (-9), 2, 0, 0, (-9))]
theorem kX4_slotOf_20 : xcode (xmb mX4_slotOf) (xmo mX4_slotOf) 20 eX4_slotOf_20 = true := by decide +kernel
def wX4_slotOf_26 (p1 : Int32) (p2 : Int32) (Q : Int32 → xM → Prop) (M : xM) (s0 : Int32) : Prop :=
    Q s0 M
set_option maxHeartbeats 4000000 in
set_option maxRecDepth 100000 in
theorem tX4_slotOf_26 {l : Launch} {E : xE} {p1 : Int32} {p2 : Int32} {Q : Int32 → xM → Prop} (M : xM) (s0 : Int32) (h : wX4_slotOf_26 p1 p2 Q M s0) : Gx l E mX4_slotOf (xRi Q) 26 M [none, none, none, none] [.int s0] := by
  unfold wX4_slotOf_26 at h
  exact Gx_iret (by decide +kernel) rfl rfl ⟨_, rfl, h⟩
def wX4_slotOf (M : xM) (p1 : Int32) (p2 : Int32) (Q : Int32 → xM → Prop) : Prop :=
    (vp_in (((60 : Int32) + ((6 : Int32) * p1)) + p2) 147) ∧ (((¬ (M 51 (((60 : Int32) + ((6 : Int32) * p1)) + p2).toNatClampNeg) = (-1 : Int32)) → (wX4_slotOf_26 p1 p2 Q M (M 51 (((60 : Int32) + ((6 : Int32) * p1)) + p2).toNatClampNeg))) ∧ (((M 51 (((60 : Int32) + ((6 : Int32) * p1)) + p2).toNatClampNeg) = (-1 : Int32)) → (wX4_slotOf_26 p1 p2 Q M (-9 : Int32))))
set_option maxHeartbeats 4000000 in
set_option maxRecDepth 100000 in
theorem tX4_slotOf {l : Launch} {E : xE} {M : xM} {p1 : Int32} {p2 : Int32} {Q : Int32 → xM → Prop} (h : wX4_slotOf M p1 p2 Q) : Ct l E mX4_slotOf [.ref 50, .int p1, .int p2] M (xRi Q) := by
  refine Ct_of (by decide +kernel) rfl (Nat.le_of_ble_eq_true rfl) ?_
  unfold wX4_slotOf at h
  show Gx l E mX4_slotOf (xRi Q) 0 M [some (.ref 50), some (.int p1), some (.int p2), none] []
  obtain ⟨g0_0, h⟩ := h
  refine Gx_run (es := eX4_slotOf_0) (P := [xkd 50 = 4, xkd 51 = 5, vp_in (((60 : Int32) + ((6 : Int32) * p1)) + p2) (xln 51)]) (M' := M) (L' := [some (.ref 50), some (.int p1), some (.int p2), some (.int (M 51 (((60 : Int32) + ((6 : Int32) * p1)) + p2).toNatClampNeg))]) (st' := [.int (-1 : Int32), .int (M 51 (((60 : Int32) + ((6 : Int32) * p1)) + p2).toNatClampNeg)]) (pc' := 17) kX4_slotOf_0 rfl ⟨rfl, rfl, g0_0, trivial⟩ rfl ?_
  refine Gx_icmp_ne (off := 8) (tgt := 25) (by decide +kernel) (by decide) (fun z => ?_) (fun z => ?_)
  · have h := h.1 z
    refine Gx_run (es := eX4_slotOf_25) (P := []) (M' := M) (L' := [some (.ref 50), some (.int p1), some (.int p2), some (.int (M 51 (((60 : Int32) + ((6 : Int32) * p1)) + p2).toNatClampNeg))]) (st' := [.int (M 51 (((60 : Int32) + ((6 : Int32) * p1)) + p2).toNatClampNeg)]) (pc' := 26) kX4_slotOf_25 rfl trivial rfl ?_
    refine Gx_mask [false, false, false, false] (L' := [none, none, none, none]) rfl ?_
    exact tX4_slotOf_26  M (M 51 (((60 : Int32) + ((6 : Int32) * p1)) + p2).toNatClampNeg) h
  · have h := h.2 z
    refine Gx_run (es := eX4_slotOf_20) (P := []) (M' := M) (L' := [some (.ref 50), some (.int p1), some (.int p2), some (.int (M 51 (((60 : Int32) + ((6 : Int32) * p1)) + p2).toNatClampNeg))]) (st' := [.int (-9 : Int32)]) (pc' := 22) kX4_slotOf_20 rfl trivial rfl ?_
    refine Gx_goto (off := 4) (tgt := 26) (by decide +kernel) (by decide) ?_
    refine Gx_mask [false, false, false, false] (L' := [none, none, none, none]) rfl ?_
    exact tX4_slotOf_26  M (-9 : Int32) h
