/-! walks: X4_points, X4_shared, X4_slot, X4_writes, J0_charAt_5068e, J0_indexOf_0f7a4, X0_mendConnections, X0_mendCounts -/
def eX4_points_0 : List xI := [(.iload_n 1, 1, 0, 0, 0)]
theorem kX4_points_0 : xcode (xmb mX4_points) (xmo mX4_points) 0 eX4_points_0 = true := by decide +kernel
def eX4_points_16 : List xI := [(.aload_n 0, 1, 0, 0, 0), (.iconst (-1), 1, 0, 0, (-1))]
theorem kX4_points_16 : xcode (xmb mX4_points) (xmo mX4_points) 16 eX4_points_16 = true := by decide +kernel
def eX4_points_7 : List xI := [(.iload_n 2, 1, 0, 0, 0), (.iconst 0, 1, 0, 0, (0)), (.iconst 2, 1, 0, 0, (2))]
theorem kX4_points_7 : xcode (xmb mX4_points) (xmo mX4_points) 7 eX4_points_7 = true := by decide +kernel
def eX4_points_22 : List xI := [(.iload_n 3, 1, 0, 0, 0)]
theorem kX4_points_22 : xcode (xmb mX4_points) (xmo mX4_points) 22 eX4_points_22 = true := by decide +kernel
def eX4_points_33 : List xI := [(.iload_n 3, 1, 0, 0, 0), (.bipush 99, 2, 0, 0, (99))]
theorem kX4_points_33 : xcode (xmb mX4_points) (xmo mX4_points) 33 eX4_points_33 = true := by decide +kernel
def eX4_points_46 : List xI := [(.aload_n 0, 1, 0, 0, 0), (.getfield 7, 3, 4, 1, 0), (.bipush 30, 2, 0, 0, (30)), (.iconst 3, 1, 0, 0, (3)), (.iload_n 1, 1, 0, 0, 0), (.imul, 1, 0, 0, 0), (.iadd, 1, 0, 0, 0), (.iload_n 2, 1, 0, 0, 0), (.iadd, 1, 0, 0, 0), (.iload_n 3, 1, 0, 0, 0), (.iastore, 1, 0, 0, 0), (.iconst 1, 1, 0, 0, (1))]
theorem kX4_points_46 : xcode (xmb mX4_points) (xmo mX4_points) 46 eX4_points_46 = true := by decide +kernel
def eX4_points_39 : List xI := [(.aload_n 0, 1, 0, 0, 0), (.bipush (-6), 2, 0, 0, (-6))]
theorem kX4_points_39 : xcode (xmb mX4_points) (xmo mX4_points) 39 eX4_points_39 = true := by decide +kernel
def eX4_points_26 : List xI := [(.aload_n 0, 1, 0, 0, 0), (.bipush (-4), 2, 0, 0, (-4))]
theorem kX4_points_26 : xcode (xmb mX4_points) (xmo mX4_points) 26 eX4_points_26 = true := by decide +kernel
def wX4_points_16 (p1 : Int32) (p2 : Int32) (p3 : Int32) (Q : Int32 → xM → Prop) (M : xM) : Prop :=
    wX4_refused M (-1 : Int32) (fun r18 M18 => Q r18 M18)
set_option maxHeartbeats 4000000 in
set_option maxRecDepth 100000 in
theorem tX4_points_16 {l : Launch} {E : xE} {p1 : Int32} {p2 : Int32} {p3 : Int32} {Q : Int32 → xM → Prop} (M : xM) (h : wX4_points_16 p1 p2 p3 Q M ) : Gx l E mX4_points (xRi Q) 16 M [some (.ref 50), none, none, none] [] := by
  unfold wX4_points_16 at h
  refine Gx_run (es := eX4_points_16) (P := []) (M' := M) (L' := [some (.ref 50), none, none, none]) (st' := [.int (-1 : Int32), .ref 50]) (pc' := 18) kX4_points_16 rfl trivial rfl ?_
  refine Gx_callV (As := [.int (-1 : Int32)]) (by decide +kernel) ml_4_55 okX4_refused mvX4_refused rfl (by decide) (Nat.le_of_ble_eq_true rfl) rfl rfl rfl (tX4_refused h) (fun rr M18 qq => ?_)
  obtain ⟨r18, rfl, h⟩ := qq
  show Gx l E mX4_points _ 21 M18 [some (.ref 50), none, none, none] [.int r18]
  exact Gx_iret (by decide +kernel) rfl rfl ⟨_, rfl, h⟩
def wX4_points (M : xM) (p1 : Int32) (p2 : Int32) (p3 : Int32) (Q : Int32 → xM → Prop) : Prop :=
    wX4_isInode M p1 (fun r1 M1 => (((r1 = 0) → (wX4_points_16 p1 p2 p3 Q M1)) ∧ ((¬ r1 = 0) → (wX4_in M1 p2 (0 : Int32) (2 : Int32) (fun r10 M10 => (((¬ r10 = 0) → ((((0 ≤ p3) → ((((p3 ≤ (99 : Int32)) → ((vp_in (((30 : Int32) + ((3 : Int32) * p1)) + p2) 147) ∧ Q (1 : Int32) (xup M10 51 (((30 : Int32) + ((3 : Int32) * p1)) + p2).toNatClampNeg p3))) ∧ ((¬ p3 ≤ (99 : Int32)) → (wX4_refused M10 (-6 : Int32) (fun r42 M42 => Q r42 M42)))))) ∧ ((¬ 0 ≤ p3) → (wX4_refused M10 (-4 : Int32) (fun r29 M29 => Q r29 M29)))))) ∧ ((r10 = 0) → (wX4_points_16 p1 p2 p3 Q M10))))))))
set_option maxHeartbeats 4000000 in
set_option maxRecDepth 100000 in
theorem tX4_points {l : Launch} {E : xE} {M : xM} {p1 : Int32} {p2 : Int32} {p3 : Int32} {Q : Int32 → xM → Prop} (h : wX4_points M p1 p2 p3 Q) : Ct l E mX4_points [.ref 50, .int p1, .int p2, .int p3] M (xRi Q) := by
  refine Ct_of (by decide +kernel) rfl (Nat.le_of_ble_eq_true rfl) ?_
  unfold wX4_points at h
  show Gx l E mX4_points (xRi Q) 0 M [some (.ref 50), some (.int p1), some (.int p2), some (.int p3)] []
  refine Gx_run (es := eX4_points_0) (P := []) (M' := M) (L' := [some (.ref 50), some (.int p1), some (.int p2), some (.int p3)]) (st' := [.int p1]) (pc' := 1) kX4_points_0 rfl trivial rfl ?_
  refine Gx_callS (As := [.int p1]) (by decide +kernel) ml_4_111 okX4_isInode mvX4_isInode rfl (by decide) (Nat.le_of_ble_eq_true rfl) (tX4_isInode h) (fun rr M1 qq => ?_)
  obtain ⟨r1, rfl, h⟩ := qq
  show Gx l E mX4_points _ 4 M1 [some (.ref 50), some (.int p1), some (.int p2), some (.int p3)] [.int r1]
  refine Gx_if_eq (off := 12) (tgt := 16) (by decide +kernel) (by decide) (fun z => ?_) (fun z => ?_)
  · have h := h.1 z
    refine Gx_mask [true, false, false, false] (L' := [some (.ref 50), none, none, none]) rfl ?_
    exact tX4_points_16  M1 h
  · have h := h.2 z
    refine Gx_run (es := eX4_points_7) (P := []) (M' := M1) (L' := [some (.ref 50), some (.int p1), some (.int p2), some (.int p3)]) (st' := [.int (2 : Int32), .int (0 : Int32), .int p2]) (pc' := 10) kX4_points_7 rfl trivial rfl ?_
    refine Gx_callS (As := [.int p2, .int (0 : Int32), .int (2 : Int32)]) (by decide +kernel) ml_4_43 okX4_in mvX4_in rfl (by decide) (Nat.le_of_ble_eq_true rfl) (tX4_in h) (fun rr M10 qq => ?_)
    obtain ⟨r10, rfl, h⟩ := qq
    show Gx l E mX4_points _ 13 M10 [some (.ref 50), some (.int p1), some (.int p2), some (.int p3)] [.int r10]
    refine Gx_if_ne (off := 9) (tgt := 22) (by decide +kernel) (by decide) (fun z => ?_) (fun z => ?_)
    · have h := h.1 z
      refine Gx_run (es := eX4_points_22) (P := []) (M' := M10) (L' := [some (.ref 50), some (.int p1), some (.int p2), some (.int p3)]) (st' := [.int p3]) (pc' := 23) kX4_points_22 rfl trivial rfl ?_
      refine Gx_if_ge (off := 10) (tgt := 33) (by decide +kernel) (by decide) (fun z => ?_) (fun z => ?_)
      · have h := h.1 z
        refine Gx_run (es := eX4_points_33) (P := []) (M' := M10) (L' := [some (.ref 50), some (.int p1), some (.int p2), some (.int p3)]) (st' := [.int (99 : Int32), .int p3]) (pc' := 36) kX4_points_33 rfl trivial rfl ?_
        refine Gx_icmp_le (off := 10) (tgt := 46) (by decide +kernel) (by decide) (fun z => ?_) (fun z => ?_)
        · have h := h.1 z
          obtain ⟨g46_0, h⟩ := h
          refine Gx_run (es := eX4_points_46) (P := [xkd 50 = 4, xkd 51 = 5, vp_in (((30 : Int32) + ((3 : Int32) * p1)) + p2) (xln 51)]) (M' := (xup M10 51 (((30 : Int32) + ((3 : Int32) * p1)) + p2).toNatClampNeg p3)) (L' := [some (.ref 50), some (.int p1), some (.int p2), some (.int p3)]) (st' := [.int (1 : Int32)]) (pc' := 61) kX4_points_46 rfl ⟨rfl, rfl, g46_0, trivial⟩ rfl ?_
          exact Gx_iret (by decide +kernel) rfl rfl ⟨_, rfl, h⟩
        · have h := h.2 z
          refine Gx_run (es := eX4_points_39) (P := []) (M' := M10) (L' := [some (.ref 50), some (.int p1), some (.int p2), some (.int p3)]) (st' := [.int (-6 : Int32), .ref 50]) (pc' := 42) kX4_points_39 rfl trivial rfl ?_
          refine Gx_callV (As := [.int (-6 : Int32)]) (by decide +kernel) ml_4_55 okX4_refused mvX4_refused rfl (by decide) (Nat.le_of_ble_eq_true rfl) rfl rfl rfl (tX4_refused h) (fun rr M42 qq => ?_)
          obtain ⟨r42, rfl, h⟩ := qq
          show Gx l E mX4_points _ 45 M42 [some (.ref 50), some (.int p1), some (.int p2), some (.int p3)] [.int r42]
          exact Gx_iret (by decide +kernel) rfl rfl ⟨_, rfl, h⟩
      · have h := h.2 z
        refine Gx_run (es := eX4_points_26) (P := []) (M' := M10) (L' := [some (.ref 50), some (.int p1), some (.int p2), some (.int p3)]) (st' := [.int (-4 : Int32), .ref 50]) (pc' := 29) kX4_points_26 rfl trivial rfl ?_
        refine Gx_callV (As := [.int (-4 : Int32)]) (by decide +kernel) ml_4_55 okX4_refused mvX4_refused rfl (by decide) (Nat.le_of_ble_eq_true rfl) rfl rfl rfl (tX4_refused h) (fun rr M29 qq => ?_)
        obtain ⟨r29, rfl, h⟩ := qq
        show Gx l E mX4_points _ 32 M29 [some (.ref 50), some (.int p1), some (.int p2), some (.int p3)] [.int r29]
        exact Gx_iret (by decide +kernel) rfl rfl ⟨_, rfl, h⟩
    · have h := h.2 z
      refine Gx_mask [true, false, false, false] (L' := [some (.ref 50), none, none, none]) rfl ?_
      exact tX4_points_16  M10 h
def eX4_shared_0 : List xI := [(.iload_n 1, 1, 0, 0, 0), (.iconst 0, 1, 0, 0, (0)), (.iconst 1, 1, 0, 0, (1))]
theorem kX4_shared_0 : xcode (xmb mX4_shared) (xmo mX4_shared) 0 eX4_shared_0 = true := by decide +kernel
def eX4_shared_16 : List xI := [(.iconst 0, 1, 0, 0, (0)), (.istore_n 2, 1, 0, 0, 0), (.iconst 0, 1, 0, 0, (0)), (.istore_n 3, 1, 0, 0, 0)]
theorem kX4_shared_16 : xcode (xmb mX4_shared) (xmo mX4_shared) 16 eX4_shared_16 = true := by decide +kernel
def eX4_shared_20 : List xI := [(.iload_n 3, 1, 0, 0, 0), (.bipush 24, 2, 0, 0, (24))]
theorem kX4_shared_20 : xcode (xmb mX4_shared) (xmo mX4_shared) 20 eX4_shared_20 = true := by decide +kernel
def eX4_shared_51 : List xI := [(.iload_n 1, 1, 0, 0, 0)]
theorem kX4_shared_51 : xcode (xmb mX4_shared) (xmo mX4_shared) 51 eX4_shared_51 = true := by decide +kernel
def eX4_shared_59 : List xI := [(.aload_n 0, 1, 0, 0, 0)]
theorem kX4_shared_59 : xcode (xmb mX4_shared) (xmo mX4_shared) 59 eX4_shared_59 = true := by decide +kernel
def eX4_shared_55 : List xI := [(.iload_n 2, 1, 0, 0, 0)]
theorem kX4_shared_55 : xcode (xmb mX4_shared) (xmo mX4_shared) 55 eX4_shared_55 = true := by decide +kernel
def eX4_shared_26 : List xI := [(.iload_n 2, 1, 0, 0, 0), (.aload_n 0, 1, 0, 0, 0), (.iload_n 3, 1, 0, 0, 0)]
theorem kX4_shared_26 : xcode (xmb mX4_shared) (xmo mX4_shared) 26 eX4_shared_26 = true := by decide +kernel
def eX4_shared_32 : List xI := [(.iconst 1, 1, 0, 0, (1))]
theorem kX4_shared_32 : xcode (xmb mX4_shared) (xmo mX4_shared) 32 eX4_shared_32 = true := by decide +kernel
def eX4_shared_42 : List xI := [(.iconst 0, 1, 0, 0, (0))]
theorem kX4_shared_42 : xcode (xmb mX4_shared) (xmo mX4_shared) 42 eX4_shared_42 = true := by decide +kernel
def eX4_shared_43 : List xI := [(.ior, 1, 0, 0, 0), (.istore_n 2, 1, 0, 0, 0), (.iinc 3 1, 3, 0, 0, (1))]
theorem kX4_shared_43 : xcode (xmb mX4_shared) (xmo mX4_shared) 43 eX4_shared_43 = true := by decide +kernel
def eX4_shared_36 : List xI := [(.iconst 1, 1, 0, 0, (1)), (.iload_n 3, 1, 0, 0, 0), (.ishl, 1, 0, 0, 0)]
theorem kX4_shared_36 : xcode (xmb mX4_shared) (xmo mX4_shared) 36 eX4_shared_36 = true := by decide +kernel
def eX4_shared_9 : List xI := [(.aload_n 0, 1, 0, 0, 0), (.bipush (-2), 2, 0, 0, (-2))]
theorem kX4_shared_9 : xcode (xmb mX4_shared) (xmo mX4_shared) 9 eX4_shared_9 = true := by decide +kernel
def wX4_shared_63 (p1 : Int32) (Q : Int32 → xM → Prop) (M : xM) (s0 : Int32) : Prop :=
    Q s0 M
set_option maxHeartbeats 4000000 in
set_option maxRecDepth 100000 in
theorem tX4_shared_63 {l : Launch} {E : xE} {p1 : Int32} {Q : Int32 → xM → Prop} (M : xM) (s0 : Int32) (h : wX4_shared_63 p1 Q M s0) : Gx l E mX4_shared (xRi Q) 63 M [none, none, none, none] [.int s0] := by
  unfold wX4_shared_63 at h
  exact Gx_iret (by decide +kernel) rfl rfl ⟨_, rfl, h⟩
def wX4_shared_43 (p1 : Int32) (Q : Int32 → xM → Prop) (k20 : xM → Int32 → Int32 → Prop) (M : xM) (a3 : Int32) (s0 : Int32) (s1 : Int32) : Prop :=
    k20 M (s1 ||| s0) (a3 + (1 : Int32))
set_option maxHeartbeats 4000000 in
set_option maxRecDepth 100000 in
theorem tX4_shared_43 {l : Launch} {E : xE} {p1 : Int32} {Q : Int32 → xM → Prop} {k20 : xM → Int32 → Int32 → Prop} (hk20 : ∀ (M : xM) (a2 : Int32) (a3 : Int32), k20 M a2 a3 → Gx l E mX4_shared (xRi Q) 20 M [some (.ref 50), some (.int p1), some (.int a2), some (.int a3)] []) (M : xM) (a3 : Int32) (s0 : Int32) (s1 : Int32) (h : wX4_shared_43 p1 Q k20 M a3 s0 s1) : Gx l E mX4_shared (xRi Q) 43 M [some (.ref 50), some (.int p1), none, some (.int a3)] [.int s0, .int s1] := by
  unfold wX4_shared_43 at h
  refine Gx_run (es := eX4_shared_43) (P := []) (M' := M) (L' := [some (.ref 50), some (.int p1), some (.int (s1 ||| s0)), some (.int (a3 + (1 : Int32)))]) (st' := []) (pc' := 48) kX4_shared_43 rfl trivial rfl ?_
  refine Gx_goto (off := -28) (tgt := 20) (by decide +kernel) (by decide) ?_
  refine Gx_mask [true, true, true, true] (L' := [some (.ref 50), some (.int p1), some (.int (s1 ||| s0)), some (.int (a3 + (1 : Int32)))]) rfl ?_
  exact hk20 M (s1 ||| s0) (a3 + (1 : Int32)) h
def lX4_shared_20 (p1 : Int32) (Q : Int32 → xM → Prop) : Nat → xM → Int32 → Int32 → Prop
  | 0 => fun _ _ _ => False
  | n + 1 => let k20 := lX4_shared_20 p1 Q n; fun M a2 a3 =>
    ((((24 : Int32) ≤ a3) → ((((¬ p1 = 0) → (wX4_freeBlock M (fun r60 M60 => wX4_shared_63 p1 Q M60 r60))) ∧ ((p1 = 0) → (wX4_shared_63 p1 Q M a2))))) ∧ ((¬ (24 : Int32) ≤ a3) → (wX4_pointersTo M a3 (fun r29 M29 => (((r29 ≤ (1 : Int32)) → (wX4_shared_43 p1 Q k20 M29 a3 (0 : Int32) a2)) ∧ ((¬ r29 ≤ (1 : Int32)) → (wX4_shared_43 p1 Q k20 M29 a3 ((1 : Int32) <<< (a3 &&& 31)) a2)))))))
set_option maxHeartbeats 4000000 in
set_option maxRecDepth 100000 in
theorem tX4_shared_20 {l : Launch} {E : xE} {p1 : Int32} {Q : Int32 → xM → Prop} (n : Nat) : ∀ (M : xM) (a2 : Int32) (a3 : Int32), lX4_shared_20 p1 Q n M a2 a3 → Gx l E mX4_shared (xRi Q) 20 M [some (.ref 50), some (.int p1), some (.int a2), some (.int a3)] [] := by
  induction n with
  | zero => intro M a2 a3 h; exact h.elim
  | succ n hk20 =>
      intro M a2 a3 h
      unfold lX4_shared_20 at h
      dsimp only at h
      refine Gx_run (es := eX4_shared_20) (P := []) (M' := M) (L' := [some (.ref 50), some (.int p1), some (.int a2), some (.int a3)]) (st' := [.int (24 : Int32), .int a3]) (pc' := 23) kX4_shared_20 rfl trivial rfl ?_
      refine Gx_icmp_ge (off := 28) (tgt := 51) (by decide +kernel) (by decide) (fun z => ?_) (fun z => ?_)
      · have h := h.1 z
        refine Gx_run (es := eX4_shared_51) (P := []) (M' := M) (L' := [some (.ref 50), some (.int p1), some (.int a2), some (.int a3)]) (st' := [.int p1]) (pc' := 52) kX4_shared_51 rfl trivial rfl ?_
        refine Gx_if_ne (off := 7) (tgt := 59) (by decide +kernel) (by decide) (fun z => ?_) (fun z => ?_)
        · have h := h.1 z
          refine Gx_run (es := eX4_shared_59) (P := []) (M' := M) (L' := [some (.ref 50), some (.int p1), some (.int a2), some (.int a3)]) (st' := [.ref 50]) (pc' := 60) kX4_shared_59 rfl trivial rfl ?_
          refine Gx_callV (As := []) (by decide +kernel) ml_4_146 okX4_freeBlock mvX4_freeBlock rfl (by decide) (Nat.le_of_ble_eq_true rfl) rfl rfl rfl (tX4_freeBlock h) (fun rr M60 qq => ?_)
          obtain ⟨r60, rfl, h⟩ := qq
          show Gx l E mX4_shared _ 63 M60 [some (.ref 50), some (.int p1), some (.int a2), some (.int a3)] [.int r60]
          refine Gx_mask [false, false, false, false] (L' := [none, none, none, none]) rfl ?_
          exact tX4_shared_63  M60 r60 h
        · have h := h.2 z
          refine Gx_run (es := eX4_shared_55) (P := []) (M' := M) (L' := [some (.ref 50), some (.int p1), some (.int a2), some (.int a3)]) (st' := [.int a2]) (pc' := 56) kX4_shared_55 rfl trivial rfl ?_
          refine Gx_goto (off := 7) (tgt := 63) (by decide +kernel) (by decide) ?_
          refine Gx_mask [false, false, false, false] (L' := [none, none, none, none]) rfl ?_
          exact tX4_shared_63  M a2 h
      · have h := h.2 z
        refine Gx_run (es := eX4_shared_26) (P := []) (M' := M) (L' := [some (.ref 50), some (.int p1), some (.int a2), some (.int a3)]) (st' := [.int a3, .ref 50, .int a2]) (pc' := 29) kX4_shared_26 rfl trivial rfl ?_
        refine Gx_callV (As := [.int a3]) (by decide +kernel) ml_4_51 okX4_pointersTo mvX4_pointersTo rfl (by decide) (Nat.le_of_ble_eq_true rfl) rfl rfl rfl (tX4_pointersTo h) (fun rr M29 qq => ?_)
        obtain ⟨r29, rfl, h⟩ := qq
        show Gx l E mX4_shared _ 32 M29 [some (.ref 50), some (.int p1), some (.int a2), some (.int a3)] [.int r29, .int a2]
        refine Gx_run (es := eX4_shared_32) (P := []) (M' := M29) (L' := [some (.ref 50), some (.int p1), some (.int a2), some (.int a3)]) (st' := [.int (1 : Int32), .int r29, .int a2]) (pc' := 33) kX4_shared_32 rfl trivial rfl ?_
        refine Gx_icmp_le (off := 9) (tgt := 42) (by decide +kernel) (by decide) (fun z => ?_) (fun z => ?_)
        · have h := h.1 z
          refine Gx_run (es := eX4_shared_42) (P := []) (M' := M29) (L' := [some (.ref 50), some (.int p1), some (.int a2), some (.int a3)]) (st' := [.int (0 : Int32), .int a2]) (pc' := 43) kX4_shared_42 rfl trivial rfl ?_
          refine Gx_mask [true, true, false, true] (L' := [some (.ref 50), some (.int p1), none, some (.int a3)]) rfl ?_
          exact tX4_shared_43  hk20 M29 a3 (0 : Int32) a2 h
        · have h := h.2 z
          refine Gx_run (es := eX4_shared_36) (P := []) (M' := M29) (L' := [some (.ref 50), some (.int p1), some (.int a2), some (.int a3)]) (st' := [.int ((1 : Int32) <<< (a3 &&& 31)), .int a2]) (pc' := 39) kX4_shared_36 rfl trivial rfl ?_
          refine Gx_goto (off := 4) (tgt := 43) (by decide +kernel) (by decide) ?_
          refine Gx_mask [true, true, false, true] (L' := [some (.ref 50), some (.int p1), none, some (.int a3)]) rfl ?_
          exact tX4_shared_43  hk20 M29 a3 ((1 : Int32) <<< (a3 &&& 31)) a2 h
def wX4_shared (M : xM) (p1 : Int32) (Q : Int32 → xM → Prop) : Prop :=
    wX4_in M p1 (0 : Int32) (1 : Int32) (fun r3 M3 => (((¬ r3 = 0) → ((∃ n : Nat, lX4_shared_20 p1 Q n M3 (0 : Int32) (0 : Int32)))) ∧ ((r3 = 0) → (wX4_refused M3 (-2 : Int32) (fun r12 M12 => Q r12 M12)))))
set_option maxHeartbeats 4000000 in
set_option maxRecDepth 100000 in
theorem tX4_shared {l : Launch} {E : xE} {M : xM} {p1 : Int32} {Q : Int32 → xM → Prop} (h : wX4_shared M p1 Q) : Ct l E mX4_shared [.ref 50, .int p1] M (xRi Q) := by
  refine Ct_of (by decide +kernel) rfl (Nat.le_of_ble_eq_true rfl) ?_
  unfold wX4_shared at h
  show Gx l E mX4_shared (xRi Q) 0 M [some (.ref 50), some (.int p1), none, none] []
  refine Gx_run (es := eX4_shared_0) (P := []) (M' := M) (L' := [some (.ref 50), some (.int p1), none, none]) (st' := [.int (1 : Int32), .int (0 : Int32), .int p1]) (pc' := 3) kX4_shared_0 rfl trivial rfl ?_
  refine Gx_callS (As := [.int p1, .int (0 : Int32), .int (1 : Int32)]) (by decide +kernel) ml_4_43 okX4_in mvX4_in rfl (by decide) (Nat.le_of_ble_eq_true rfl) (tX4_in h) (fun rr M3 qq => ?_)
  obtain ⟨r3, rfl, h⟩ := qq
  show Gx l E mX4_shared _ 6 M3 [some (.ref 50), some (.int p1), none, none] [.int r3]
  refine Gx_if_ne (off := 10) (tgt := 16) (by decide +kernel) (by decide) (fun z => ?_) (fun z => ?_)
  · have h := h.1 z
    refine Gx_run (es := eX4_shared_16) (P := []) (M' := M3) (L' := [some (.ref 50), some (.int p1), some (.int (0 : Int32)), some (.int (0 : Int32))]) (st' := []) (pc' := 20) kX4_shared_16 rfl trivial rfl ?_
    refine Gx_mask [true, true, true, true] (L' := [some (.ref 50), some (.int p1), some (.int (0 : Int32)), some (.int (0 : Int32))]) rfl ?_
    obtain ⟨n, h⟩ := h
    exact tX4_shared_20  n M3 (0 : Int32) (0 : Int32) h
  · have h := h.2 z
    refine Gx_run (es := eX4_shared_9) (P := []) (M' := M3) (L' := [some (.ref 50), some (.int p1), none, none]) (st' := [.int (-2 : Int32), .ref 50]) (pc' := 12) kX4_shared_9 rfl trivial rfl ?_
    refine Gx_callV (As := [.int (-2 : Int32)]) (by decide +kernel) ml_4_55 okX4_refused mvX4_refused rfl (by decide) (Nat.le_of_ble_eq_true rfl) rfl rfl rfl (tX4_refused h) (fun rr M12 qq => ?_)
    obtain ⟨r12, rfl, h⟩ := qq
    show Gx l E mX4_shared _ 15 M12 [some (.ref 50), some (.int p1), none, none] [.int r12]
    exact Gx_iret (by decide +kernel) rfl rfl ⟨_, rfl, h⟩
def eX4_slot_0 : List xI := [(.iload_n 1, 1, 0, 0, 0)]
theorem kX4_slot_0 : xcode (xmb mX4_slot) (xmo mX4_slot) 0 eX4_slot_0 = true := by decide +kernel
def eX4_slot_25 : List xI := [(.aload_n 0, 1, 0, 0, 0), (.iconst (-1), 1, 0, 0, (-1))]
theorem kX4_slot_25 : xcode (xmb mX4_slot) (xmo mX4_slot) 25 eX4_slot_25 = true := by decide +kernel
def eX4_slot_7 : List xI := [(.iload_n 2, 1, 0, 0, 0), (.iconst 0, 1, 0, 0, (0)), (.iconst 5, 1, 0, 0, (5))]
theorem kX4_slot_7 : xcode (xmb mX4_slot) (xmo mX4_slot) 7 eX4_slot_7 = true := by decide +kernel
def eX4_slot_16 : List xI := [(.aload_n 0, 1, 0, 0, 0), (.iload_n 1, 1, 0, 0, 0), (.iload_n 2, 1, 0, 0, 0)]
theorem kX4_slot_16 : xcode (xmb mX4_slot) (xmo mX4_slot) 16 eX4_slot_16 = true := by decide +kernel
def wX4_slot_30 (p1 : Int32) (p2 : Int32) (Q : Int32 → xM → Prop) (M : xM) (s0 : Int32) : Prop :=
    Q s0 M
set_option maxHeartbeats 4000000 in
set_option maxRecDepth 100000 in
theorem tX4_slot_30 {l : Launch} {E : xE} {p1 : Int32} {p2 : Int32} {Q : Int32 → xM → Prop} (M : xM) (s0 : Int32) (h : wX4_slot_30 p1 p2 Q M s0) : Gx l E mX4_slot (xRi Q) 30 M [none, none, none] [.int s0] := by
  unfold wX4_slot_30 at h
  exact Gx_iret (by decide +kernel) rfl rfl ⟨_, rfl, h⟩
def wX4_slot_25 (p1 : Int32) (p2 : Int32) (Q : Int32 → xM → Prop) (M : xM) : Prop :=
    wX4_refused M (-1 : Int32) (fun r27 M27 => wX4_slot_30 p1 p2 Q M27 r27)
set_option maxHeartbeats 4000000 in
set_option maxRecDepth 100000 in
theorem tX4_slot_25 {l : Launch} {E : xE} {p1 : Int32} {p2 : Int32} {Q : Int32 → xM → Prop} (M : xM) (h : wX4_slot_25 p1 p2 Q M ) : Gx l E mX4_slot (xRi Q) 25 M [some (.ref 50), none, none] [] := by
  unfold wX4_slot_25 at h
  refine Gx_run (es := eX4_slot_25) (P := []) (M' := M) (L' := [some (.ref 50), none, none]) (st' := [.int (-1 : Int32), .ref 50]) (pc' := 27) kX4_slot_25 rfl trivial rfl ?_
  refine Gx_callV (As := [.int (-1 : Int32)]) (by decide +kernel) ml_4_55 okX4_refused mvX4_refused rfl (by decide) (Nat.le_of_ble_eq_true rfl) rfl rfl rfl (tX4_refused h) (fun rr M27 qq => ?_)
  obtain ⟨r27, rfl, h⟩ := qq
  show Gx l E mX4_slot _ 30 M27 [some (.ref 50), none, none] [.int r27]
  refine Gx_mask [false, false, false] (L' := [none, none, none]) rfl ?_
  exact tX4_slot_30  M27 r27 h
def wX4_slot (M : xM) (p1 : Int32) (p2 : Int32) (Q : Int32 → xM → Prop) : Prop :=
    wX4_isInode M p1 (fun r1 M1 => (((r1 = 0) → (wX4_slot_25 p1 p2 Q M1)) ∧ ((¬ r1 = 0) → (wX4_in M1 p2 (0 : Int32) (5 : Int32) (fun r10 M10 => (((r10 = 0) → (wX4_slot_25 p1 p2 Q M10)) ∧ ((¬ r10 = 0) → (wX4_slotOf M10 p1 p2 (fun r19 M19 => wX4_slot_30 p1 p2 Q M19 r19)))))))))
set_option maxHeartbeats 4000000 in
set_option maxRecDepth 100000 in
theorem tX4_slot {l : Launch} {E : xE} {M : xM} {p1 : Int32} {p2 : Int32} {Q : Int32 → xM → Prop} (h : wX4_slot M p1 p2 Q) : Ct l E mX4_slot [.ref 50, .int p1, .int p2] M (xRi Q) := by
  refine Ct_of (by decide +kernel) rfl (Nat.le_of_ble_eq_true rfl) ?_
  unfold wX4_slot at h
  show Gx l E mX4_slot (xRi Q) 0 M [some (.ref 50), some (.int p1), some (.int p2)] []
  refine Gx_run (es := eX4_slot_0) (P := []) (M' := M) (L' := [some (.ref 50), some (.int p1), some (.int p2)]) (st' := [.int p1]) (pc' := 1) kX4_slot_0 rfl trivial rfl ?_
  refine Gx_callS (As := [.int p1]) (by decide +kernel) ml_4_111 okX4_isInode mvX4_isInode rfl (by decide) (Nat.le_of_ble_eq_true rfl) (tX4_isInode h) (fun rr M1 qq => ?_)
  obtain ⟨r1, rfl, h⟩ := qq
  show Gx l E mX4_slot _ 4 M1 [some (.ref 50), some (.int p1), some (.int p2)] [.int r1]
  refine Gx_if_eq (off := 21) (tgt := 25) (by decide +kernel) (by decide) (fun z => ?_) (fun z => ?_)
  · have h := h.1 z
    refine Gx_mask [true, false, false] (L' := [some (.ref 50), none, none]) rfl ?_
    exact tX4_slot_25  M1 h
  · have h := h.2 z
    refine Gx_run (es := eX4_slot_7) (P := []) (M' := M1) (L' := [some (.ref 50), some (.int p1), some (.int p2)]) (st' := [.int (5 : Int32), .int (0 : Int32), .int p2]) (pc' := 10) kX4_slot_7 rfl trivial rfl ?_
    refine Gx_callS (As := [.int p2, .int (0 : Int32), .int (5 : Int32)]) (by decide +kernel) ml_4_43 okX4_in mvX4_in rfl (by decide) (Nat.le_of_ble_eq_true rfl) (tX4_in h) (fun rr M10 qq => ?_)
    obtain ⟨r10, rfl, h⟩ := qq
    show Gx l E mX4_slot _ 13 M10 [some (.ref 50), some (.int p1), some (.int p2)] [.int r10]
    refine Gx_if_eq (off := 12) (tgt := 25) (by decide +kernel) (by decide) (fun z => ?_) (fun z => ?_)
    · have h := h.1 z
      refine Gx_mask [true, false, false] (L' := [some (.ref 50), none, none]) rfl ?_
      exact tX4_slot_25  M10 h
    · have h := h.2 z
      refine Gx_run (es := eX4_slot_16) (P := []) (M' := M10) (L' := [some (.ref 50), some (.int p1), some (.int p2)]) (st' := [.int p2, .int p1, .ref 50]) (pc' := 19) kX4_slot_16 rfl trivial rfl ?_
      refine Gx_callV (As := [.int p1, .int p2]) (by decide +kernel) ml_4_124 okX4_slotOf mvX4_slotOf rfl (by decide) (Nat.le_of_ble_eq_true rfl) rfl rfl rfl (tX4_slotOf h) (fun rr M19 qq => ?_)
      obtain ⟨r19, rfl, h⟩ := qq
      show Gx l E mX4_slot _ 22 M19 [some (.ref 50), some (.int p1), some (.int p2)] [.int r19]
      refine Gx_goto (off := 8) (tgt := 30) (by decide +kernel) (by decide) ?_
      refine Gx_mask [false, false, false] (L' := [none, none, none]) rfl ?_
      exact tX4_slot_30  M19 r19 h
def eX4_writes_0 : List xI := [(.iload_n 1, 1, 0, 0, 0)]
theorem kX4_writes_0 : xcode (xmb mX4_writes) (xmo mX4_writes) 0 eX4_writes_0 = true := by decide +kernel
def eX4_writes_13 : List xI := [(.iload_n 2, 1, 0, 0, 0)]
theorem kX4_writes_13 : xcode (xmb mX4_writes) (xmo mX4_writes) 13 eX4_writes_13 = true := by decide +kernel
def eX4_writes_24 : List xI := [(.iload_n 2, 1, 0, 0, 0), (.bipush 99, 2, 0, 0, (99))]
theorem kX4_writes_24 : xcode (xmb mX4_writes) (xmo mX4_writes) 24 eX4_writes_24 = true := by decide +kernel
def eX4_writes_39 : List xI := [(.aload_n 0, 1, 0, 0, 0), (.bipush 120, 2, 0, 0, (120)), (.iload_n 1, 1, 0, 0, 0), (.iadd, 1, 0, 0, 0), (.iload_n 2, 1, 0, 0, 0)]
theorem kX4_writes_39 : xcode (xmb mX4_writes) (xmo mX4_writes) 39 eX4_writes_39 = true := by decide +kernel
def eX4_writes_30 : List xI := [(.aload_n 0, 1, 0, 0, 0), (.bipush (-6), 2, 0, 0, (-6))]
theorem kX4_writes_30 : xcode (xmb mX4_writes) (xmo mX4_writes) 30 eX4_writes_30 = true := by decide +kernel
def eX4_writes_17 : List xI := [(.aload_n 0, 1, 0, 0, 0), (.bipush (-4), 2, 0, 0, (-4))]
theorem kX4_writes_17 : xcode (xmb mX4_writes) (xmo mX4_writes) 17 eX4_writes_17 = true := by decide +kernel
def eX4_writes_7 : List xI := [(.aload_n 0, 1, 0, 0, 0), (.iconst (-1), 1, 0, 0, (-1))]
theorem kX4_writes_7 : xcode (xmb mX4_writes) (xmo mX4_writes) 7 eX4_writes_7 = true := by decide +kernel
def wX4_writes_48 (p1 : Int32) (p2 : Int32) (Q : Int32 → xM → Prop) (M : xM) (s0 : Int32) : Prop :=
    Q s0 M
set_option maxHeartbeats 4000000 in
set_option maxRecDepth 100000 in
theorem tX4_writes_48 {l : Launch} {E : xE} {p1 : Int32} {p2 : Int32} {Q : Int32 → xM → Prop} (M : xM) (s0 : Int32) (h : wX4_writes_48 p1 p2 Q M s0) : Gx l E mX4_writes (xRi Q) 48 M [none, none, none] [.int s0] := by
  unfold wX4_writes_48 at h
  exact Gx_iret (by decide +kernel) rfl rfl ⟨_, rfl, h⟩
def wX4_writes (M : xM) (p1 : Int32) (p2 : Int32) (Q : Int32 → xM → Prop) : Prop :=
    wX4_isBlock M p1 (fun r1 M1 => (((¬ r1 = 0) → ((((0 ≤ p2) → ((((p2 ≤ (99 : Int32)) → (wX4_becomes M1 ((120 : Int32) + p1) p2 (fun r45 M45 => wX4_writes_48 p1 p2 Q M45 r45))) ∧ ((¬ p2 ≤ (99 : Int32)) → (wX4_refused M1 (-6 : Int32) (fun r33 M33 => wX4_writes_48 p1 p2 Q M33 r33)))))) ∧ ((¬ 0 ≤ p2) → (wX4_refused M1 (-4 : Int32) (fun r20 M20 => Q r20 M20)))))) ∧ ((r1 = 0) → (wX4_refused M1 (-1 : Int32) (fun r9 M9 => Q r9 M9)))))
set_option maxHeartbeats 4000000 in
set_option maxRecDepth 100000 in
theorem tX4_writes {l : Launch} {E : xE} {M : xM} {p1 : Int32} {p2 : Int32} {Q : Int32 → xM → Prop} (h : wX4_writes M p1 p2 Q) : Ct l E mX4_writes [.ref 50, .int p1, .int p2] M (xRi Q) := by
  refine Ct_of (by decide +kernel) rfl (Nat.le_of_ble_eq_true rfl) ?_
  unfold wX4_writes at h
  show Gx l E mX4_writes (xRi Q) 0 M [some (.ref 50), some (.int p1), some (.int p2)] []
  refine Gx_run (es := eX4_writes_0) (P := []) (M' := M) (L' := [some (.ref 50), some (.int p1), some (.int p2)]) (st' := [.int p1]) (pc' := 1) kX4_writes_0 rfl trivial rfl ?_
  refine Gx_callS (As := [.int p1]) (by decide +kernel) ml_4_127 okX4_isBlock mvX4_isBlock rfl (by decide) (Nat.le_of_ble_eq_true rfl) (tX4_isBlock h) (fun rr M1 qq => ?_)
  obtain ⟨r1, rfl, h⟩ := qq
  show Gx l E mX4_writes _ 4 M1 [some (.ref 50), some (.int p1), some (.int p2)] [.int r1]
  refine Gx_if_ne (off := 9) (tgt := 13) (by decide +kernel) (by decide) (fun z => ?_) (fun z => ?_)
  · have h := h.1 z
    refine Gx_run (es := eX4_writes_13) (P := []) (M' := M1) (L' := [some (.ref 50), some (.int p1), some (.int p2)]) (st' := [.int p2]) (pc' := 14) kX4_writes_13 rfl trivial rfl ?_
    refine Gx_if_ge (off := 10) (tgt := 24) (by decide +kernel) (by decide) (fun z => ?_) (fun z => ?_)
    · have h := h.1 z
      refine Gx_run (es := eX4_writes_24) (P := []) (M' := M1) (L' := [some (.ref 50), some (.int p1), some (.int p2)]) (st' := [.int (99 : Int32), .int p2]) (pc' := 27) kX4_writes_24 rfl trivial rfl ?_
      refine Gx_icmp_le (off := 12) (tgt := 39) (by decide +kernel) (by decide) (fun z => ?_) (fun z => ?_)
      · have h := h.1 z
        refine Gx_run (es := eX4_writes_39) (P := []) (M' := M1) (L' := [some (.ref 50), some (.int p1), some (.int p2)]) (st' := [.int p2, .int ((120 : Int32) + p1), .ref 50]) (pc' := 45) kX4_writes_39 rfl trivial rfl ?_
        refine Gx_callV (As := [.int ((120 : Int32) + p1), .int p2]) (by decide +kernel) ml_4_130 okX4_becomes mvX4_becomes rfl (by decide) (Nat.le_of_ble_eq_true rfl) rfl rfl rfl (tX4_becomes h) (fun rr M45 qq => ?_)
        obtain ⟨r45, rfl, h⟩ := qq
        show Gx l E mX4_writes _ 48 M45 [some (.ref 50), some (.int p1), some (.int p2)] [.int r45]
        refine Gx_mask [false, false, false] (L' := [none, none, none]) rfl ?_
        exact tX4_writes_48  M45 r45 h
      · have h := h.2 z
        refine Gx_run (es := eX4_writes_30) (P := []) (M' := M1) (L' := [some (.ref 50), some (.int p1), some (.int p2)]) (st' := [.int (-6 : Int32), .ref 50]) (pc' := 33) kX4_writes_30 rfl trivial rfl ?_
        refine Gx_callV (As := [.int (-6 : Int32)]) (by decide +kernel) ml_4_55 okX4_refused mvX4_refused rfl (by decide) (Nat.le_of_ble_eq_true rfl) rfl rfl rfl (tX4_refused h) (fun rr M33 qq => ?_)
        obtain ⟨r33, rfl, h⟩ := qq
        show Gx l E mX4_writes _ 36 M33 [some (.ref 50), some (.int p1), some (.int p2)] [.int r33]
        refine Gx_goto (off := 12) (tgt := 48) (by decide +kernel) (by decide) ?_
        refine Gx_mask [false, false, false] (L' := [none, none, none]) rfl ?_
        exact tX4_writes_48  M33 r33 h
    · have h := h.2 z
      refine Gx_run (es := eX4_writes_17) (P := []) (M' := M1) (L' := [some (.ref 50), some (.int p1), some (.int p2)]) (st' := [.int (-4 : Int32), .ref 50]) (pc' := 20) kX4_writes_17 rfl trivial rfl ?_
      refine Gx_callV (As := [.int (-4 : Int32)]) (by decide +kernel) ml_4_55 okX4_refused mvX4_refused rfl (by decide) (Nat.le_of_ble_eq_true rfl) rfl rfl rfl (tX4_refused h) (fun rr M20 qq => ?_)
      obtain ⟨r20, rfl, h⟩ := qq
      show Gx l E mX4_writes _ 23 M20 [some (.ref 50), some (.int p1), some (.int p2)] [.int r20]
      exact Gx_iret (by decide +kernel) rfl rfl ⟨_, rfl, h⟩
  · have h := h.2 z
    refine Gx_run (es := eX4_writes_7) (P := []) (M' := M1) (L' := [some (.ref 50), some (.int p1), some (.int p2)]) (st' := [.int (-1 : Int32), .ref 50]) (pc' := 9) kX4_writes_7 rfl trivial rfl ?_
    refine Gx_callV (As := [.int (-1 : Int32)]) (by decide +kernel) ml_4_55 okX4_refused mvX4_refused rfl (by decide) (Nat.le_of_ble_eq_true rfl) rfl rfl rfl (tX4_refused h) (fun rr M9 qq => ?_)
    obtain ⟨r9, rfl, h⟩ := qq
    show Gx l E mX4_writes _ 12 M9 [some (.ref 50), some (.int p1), some (.int p2)] [.int r9]
    exact Gx_iret (by decide +kernel) rfl rfl ⟨_, rfl, h⟩
def eJ0_charAt_5068e_0 : List xI := [(.aload_n 0, 1, 0, 0, 0)]
theorem kJ0_charAt_5068e_0 : xcode (xmb mJ0_charAt_5068e) (xmo mJ0_charAt_5068e) 0 eJ0_charAt_5068e_0 = true := by decide +kernel
def eJ0_charAt_5068e_16 : List xI := [(.aload_n 0, 1, 0, 0, 0), (.getfield 9, 3, 9, 0, 0), (.iload_n 1, 1, 0, 0, 0)]
theorem kJ0_charAt_5068e_16 : xcode (xmb mJ0_charAt_5068e) (xmo mJ0_charAt_5068e) 16 eJ0_charAt_5068e_16 = true := by decide +kernel
def eJ0_charAt_5068e_7 : List xI := [(.aload_n 0, 1, 0, 0, 0), (.getfield 9, 3, 9, 0, 0), (.iload_n 1, 1, 0, 0, 0)]
theorem kJ0_charAt_5068e_7 : xcode (xmb mJ0_charAt_5068e) (xmo mJ0_charAt_5068e) 7 eJ0_charAt_5068e_7 = true := by decide +kernel
def wJ0_charAt_5068e (M : xM) (t : Nat) (p1 : Int32) (Q : Int32 → xM → Prop) : Prop :=
    wJ0_isLatin1_aae02 M t (fun r1 M1 => (((r1 = 0) → (False)) ∧ ((¬ r1 = 0) → (wJ1_charAt_3b067 M1 (t + 20) p1 (fun r12 M12 => (r12.toUInt32.toUInt16.toUInt32.toInt32 = r12) ∧ Q r12 M12)))))
set_option maxHeartbeats 4000000 in
set_option maxRecDepth 100000 in
theorem tJ0_charAt_5068e {l : Launch} {E : xE} {M : xM} {t : Nat} {p1 : Int32} {Q : Int32 → xM → Prop} (h_t : xStp t) (h : wJ0_charAt_5068e M t p1 Q) : Ct l E mJ0_charAt_5068e [.ref t, .int p1] M (xRi Q) := by
  refine Ct_of (by decide +kernel) rfl (Nat.le_of_ble_eq_true rfl) ?_
  unfold wJ0_charAt_5068e at h
  show Gx l E mJ0_charAt_5068e (xRi Q) 0 M [some (.ref t), some (.int p1)] []
  refine Gx_run (es := eJ0_charAt_5068e_0) (P := []) (M' := M) (L' := [some (.ref t), some (.int p1)]) (st' := [.ref t]) (pc' := 1) kJ0_charAt_5068e_0 rfl trivial rfl ?_
  refine Gx_callTp (As := []) (by decide +kernel) ml_5_492 okJ0_isLatin1_aae02 mvJ0_isLatin1_aae02 rfl (by decide) (Nat.le_of_ble_eq_true rfl) h_t rfl (tJ0_isLatin1_aae02 h_t h) (fun rr M1 qq => ?_)
  obtain ⟨r1, rfl, h⟩ := qq
  show Gx l E mJ0_charAt_5068e _ 4 M1 [some (.ref t), some (.int p1)] [.int r1]
  refine Gx_if_eq (off := 12) (tgt := 16) (by decide +kernel) (by decide) (fun z => ?_) (fun z => ?_)
  · have h := h.1 z
    refine Gx_run (es := eJ0_charAt_5068e_16) (P := [110 ≤ t, t < 119]) (M' := M1) (L' := [some (.ref t), some (.int p1)]) (st' := [.int p1, .ref (t + 20)]) (pc' := 21) kJ0_charAt_5068e_16 rfl ⟨h_t.1, h_t.2, trivial⟩ rfl ?_
    exact h.elim
  · have h := h.2 z
    refine Gx_run (es := eJ0_charAt_5068e_7) (P := [110 ≤ t, t < 119]) (M' := M1) (L' := [some (.ref t), some (.int p1)]) (st' := [.int p1, .ref (t + 20)]) (pc' := 12) kJ0_charAt_5068e_7 rfl ⟨h_t.1, h_t.2, trivial⟩ rfl ?_
    refine Gx_callS (As := [.ref (t + 20), .int p1]) (by decide +kernel) ml_5_495 okJ1_charAt_3b067 mvJ1_charAt_3b067 rfl (by decide) (Nat.le_of_ble_eq_true rfl) (tJ1_charAt_3b067 (xByt_of h_t) h) (fun rr M12 qq => ?_)
    obtain ⟨r12, rfl, h⟩ := qq
    show Gx l E mJ0_charAt_5068e _ 15 M12 [some (.ref t), some (.int p1)] [.int r12]
    exact Gx_iret (by decide +kernel) rfl (congrArg Value.int h.1) ⟨_, rfl, h.2⟩
def eJ0_indexOf_0f7a4_0 : List xI := [(.aload_n 0, 1, 0, 0, 0), (.iload_n 1, 1, 0, 0, 0), (.iconst 0, 1, 0, 0, (0))]
theorem kJ0_indexOf_0f7a4_0 : xcode (xmb mJ0_indexOf_0f7a4) (xmo mJ0_indexOf_0f7a4) 0 eJ0_indexOf_0f7a4_0 = true := by decide +kernel
def wJ0_indexOf_0f7a4 (M : xM) (t : Nat) (p1 : Int32) (Q : Int32 → xM → Prop) : Prop :=
    wJ0_indexOf_7cf53 M t p1 (0 : Int32) (fun r3 M3 => Q r3 M3)
set_option maxHeartbeats 4000000 in
set_option maxRecDepth 100000 in
theorem tJ0_indexOf_0f7a4 {l : Launch} {E : xE} {M : xM} {t : Nat} {p1 : Int32} {Q : Int32 → xM → Prop} (h_t : xStp t) (h : wJ0_indexOf_0f7a4 M t p1 Q) : Ct l E mJ0_indexOf_0f7a4 [.ref t, .int p1] M (xRi Q) := by
  refine Ct_of (by decide +kernel) rfl (Nat.le_of_ble_eq_true rfl) ?_
  unfold wJ0_indexOf_0f7a4 at h
  show Gx l E mJ0_indexOf_0f7a4 (xRi Q) 0 M [some (.ref t), some (.int p1)] []
  refine Gx_run (es := eJ0_indexOf_0f7a4_0) (P := []) (M' := M) (L' := [some (.ref t), some (.int p1)]) (st' := [.int (0 : Int32), .int p1, .ref t]) (pc' := 3) kJ0_indexOf_0f7a4_0 rfl trivial rfl ?_
  refine Gx_callTp (As := [.int p1, .int (0 : Int32)]) (by decide +kernel) ml_5_633 okJ0_indexOf_7cf53 mvJ0_indexOf_7cf53 rfl (by decide) (Nat.le_of_ble_eq_true rfl) h_t rfl (tJ0_indexOf_7cf53 h_t h) (fun rr M3 qq => ?_)
  obtain ⟨r3, rfl, h⟩ := qq
  show Gx l E mJ0_indexOf_0f7a4 _ 6 M3 [some (.ref t), some (.int p1)] [.int r3]
  exact Gx_iret (by decide +kernel) rfl rfl ⟨_, rfl, h⟩
def eX0_mendConnections_0 : List xI := [(.iconst 0, 1, 0, 0, (0)), (.istore_n 1, 1, 0, 0, 0)]
theorem kX0_mendConnections_0 : xcode (xmb mX0_mendConnections) (xmo mX0_mendConnections) 0 eX0_mendConnections_0 = true := by decide +kernel
def eX0_mendConnections_2 : List xI := [(.iload_n 1, 1, 0, 0, 0), (.bipush 10, 2, 0, 0, (10))]
theorem kX0_mendConnections_2 : xcode (xmb mX0_mendConnections) (xmo mX0_mendConnections) 2 eX0_mendConnections_2 = true := by decide +kernel
def eX0_mendConnections_8 : List xI := [(.aload_n 0, 1, 0, 0, 0), (.getfield 12, 3, 0, 0, 0)]
theorem kX0_mendConnections_8 : xcode (xmb mX0_mendConnections) (xmo mX0_mendConnections) 8 eX0_mendConnections_8 = true := by decide +kernel
def eX0_mendConnections_15 : List xI := [(.aload_n 0, 1, 0, 0, 0), (.getfield 12, 3, 0, 0, 0), (.iconst 0, 1, 0, 0, (0))]
theorem kX0_mendConnections_15 : xcode (xmb mX0_mendConnections) (xmo mX0_mendConnections) 15 eX0_mendConnections_15 = true := by decide +kernel
def eX0_mendConnections_23 : List xI := [(.iconst (-1), 1, 0, 0, (-1)), (.ixor, 1, 0, 0, 0), (.iand, 1, 0, 0, 0), (.istore_n 2, 1, 0, 0, 0), (.iload_n 2, 1, 0, 0, 0)]
theorem kX0_mendConnections_23 : xcode (xmb mX0_mendConnections) (xmo mX0_mendConnections) 23 eX0_mendConnections_23 = true := by decide +kernel
def eX0_mendConnections_32 : List xI := [(.iload_n 2, 1, 0, 0, 0), (.aload_n 0, 1, 0, 0, 0), (.getfield 12, 3, 0, 0, 0), (.sipush 1023, 3, 0, 0, (1023))]
theorem kX0_mendConnections_32 : xcode (xmb mX0_mendConnections) (xmo mX0_mendConnections) 32 eX0_mendConnections_32 = true := by decide +kernel
def eX0_mendConnections_43 : List xI := [(.iconst (-1), 1, 0, 0, (-1)), (.ixor, 1, 0, 0, 0), (.iand, 1, 0, 0, 0), (.istore_n 3, 1, 0, 0, 0), (.iload_n 3, 1, 0, 0, 0)]
theorem kX0_mendConnections_43 : xcode (xmb mX0_mendConnections) (xmo mX0_mendConnections) 43 eX0_mendConnections_43 = true := by decide +kernel
def eX0_mendConnections_55 : List xI := [(.iload_n 2, 1, 0, 0, 0)]
theorem kX0_mendConnections_55 : xcode (xmb mX0_mendConnections) (xmo mX0_mendConnections) 55 eX0_mendConnections_55 = true := by decide +kernel
def eX0_mendConnections_59 : List xI := [(.istore 4, 2, 0, 0, 0), (.iload_n 3, 1, 0, 0, 0)]
theorem kX0_mendConnections_59 : xcode (xmb mX0_mendConnections) (xmo mX0_mendConnections) 59 eX0_mendConnections_59 = true := by decide +kernel
def eX0_mendConnections_71 : List xI := [(.aload_n 0, 1, 0, 0, 0), (.iload 4, 2, 0, 0, 0)]
theorem kX0_mendConnections_71 : xcode (xmb mX0_mendConnections) (xmo mX0_mendConnections) 71 eX0_mendConnections_71 = true := by decide +kernel
def eX0_mendConnections_77 : List xI := [(.istore 5, 2, 0, 0, 0), (.aload_n 0, 1, 0, 0, 0), (.iload 5, 2, 0, 0, 0), (.bipush (-9), 2, 0, 0, (-9))]
theorem kX0_mendConnections_77 : xcode (xmb mX0_mendConnections) (xmo mX0_mendConnections) 77 eX0_mendConnections_77 = true := by decide +kernel
def eX0_mendConnections_92 : List xI := [(.bipush 10, 2, 0, 0, (10))]
theorem kX0_mendConnections_92 : xcode (xmb mX0_mendConnections) (xmo mX0_mendConnections) 92 eX0_mendConnections_92 = true := by decide +kernel
def eX0_mendConnections_94 : List xI := [(.iload 4, 2, 0, 0, 0), (.iconst 0, 1, 0, 0, (0)), (.iload 5, 2, 0, 0, 0)]
theorem kX0_mendConnections_94 : xcode (xmb mX0_mendConnections) (xmo mX0_mendConnections) 94 eX0_mendConnections_94 = true := by decide +kernel
def eX0_mendConnections_105 : List xI := [(.pop, 1, 0, 0, 0), (.iinc 1 1, 3, 0, 0, (1))]
theorem kX0_mendConnections_105 : xcode (xmb mX0_mendConnections) (xmo mX0_mendConnections) 105 eX0_mendConnections_105 = true := by decide +kernel
def eX0_mendConnections_87 : List xI := [(.bipush 11, 2, 0, 0, (11))]
theorem kX0_mendConnections_87 : xcode (xmb mX0_mendConnections) (xmo mX0_mendConnections) 87 eX0_mendConnections_87 = true := by decide +kernel
def eX0_mendConnections_65 : List xI := [(.aload_n 0, 1, 0, 0, 0), (.iload 4, 2, 0, 0, 0)]
theorem kX0_mendConnections_65 : xcode (xmb mX0_mendConnections) (xmo mX0_mendConnections) 65 eX0_mendConnections_65 = true := by decide +kernel
def eX0_mendConnections_51 : List xI := [(.iload_n 3, 1, 0, 0, 0)]
theorem kX0_mendConnections_51 : xcode (xmb mX0_mendConnections) (xmo mX0_mendConnections) 51 eX0_mendConnections_51 = true := by decide +kernel
def wX0_mendConnections_94 (c : Nat) (Q : xM → Prop) (k2 : xM → Int32 → Prop) (M : xM) (a1 : Int32) (a4 : Int32) (a5 : Int32) (s0 : Int32) : Prop :=
    wX0_asks M c s0 a4 (if (0 : Int32) < a5 then a5 else (0 : Int32)) (fun r102 M102 => k2 M102 (a1 + (1 : Int32)))
set_option maxHeartbeats 4000000 in
set_option maxRecDepth 100000 in
theorem tX0_mendConnections_94 {l : Launch} {E : xE} {c : Nat} {Q : xM → Prop} {k2 : xM → Int32 → Prop} (h_c : xChk c) (hk2 : ∀ (M : xM) (a1 : Int32), k2 M a1 → Gx l E mX0_mendConnections (xRv Q) 2 M [some (.ref c), some (.int a1), none, none, none, none] []) (M : xM) (a1 : Int32) (a4 : Int32) (a5 : Int32) (s0 : Int32) (h : wX0_mendConnections_94 c Q k2 M a1 a4 a5 s0) : Gx l E mX0_mendConnections (xRv Q) 94 M [some (.ref c), some (.int a1), none, none, some (.int a4), some (.int a5)] [.int s0, .ref c] := by
  unfold wX0_mendConnections_94 at h
  refine Gx_run (es := eX0_mendConnections_94) (P := []) (M' := M) (L' := [some (.ref c), some (.int a1), none, none, some (.int a4), some (.int a5)]) (st' := [.int a5, .int (0 : Int32), .int a4, .int s0, .ref c]) (pc' := 99) kX0_mendConnections_94 rfl trivial rfl ?_
  refine Gx_mmax (by decide +kernel) ml_0_130 (by decide) (Nat.le_of_ble_eq_true rfl) ?_
  refine Gx_callV (As := [.int s0, .int a4, .int (if (0 : Int32) < a5 then a5 else (0 : Int32))]) (by decide +kernel) ml_0_64 okX0_asks mvX0_asks rfl (by decide) (Nat.le_of_ble_eq_true rfl) (xChk_0 h_c) rfl rfl (tX0_asks h_c h) (fun rr M102 qq => ?_)
  obtain ⟨r102, rfl, h⟩ := qq
  show Gx l E mX0_mendConnections _ 105 M102 [some (.ref c), some (.int a1), none, none, some (.int a4), some (.int a5)] [.int r102]
  refine Gx_run (es := eX0_mendConnections_105) (P := []) (M' := M102) (L' := [some (.ref c), some (.int (a1 + (1 : Int32))), none, none, some (.int a4), some (.int a5)]) (st' := []) (pc' := 109) kX0_mendConnections_105 rfl trivial rfl ?_
  refine Gx_goto (off := -107) (tgt := 2) (by decide +kernel) (by decide) ?_
  refine Gx_mask [true, true, false, false, false, false] (L' := [some (.ref c), some (.int (a1 + (1 : Int32))), none, none, none, none]) rfl ?_
  exact hk2 M102 (a1 + (1 : Int32)) h
def wX0_mendConnections_71 (c : Nat) (Q : xM → Prop) (k2 : xM → Int32 → Prop) (M : xM) (a1 : Int32) (a4 : Int32) : Prop :=
    wX0_attach M c a4 (fun r74 M74 => (((¬ r74 = (-9 : Int32)) → (wX0_mendConnections_94 c Q k2 M74 a1 a4 r74 (10 : Int32))) ∧ ((r74 = (-9 : Int32)) → (wX0_mendConnections_94 c Q k2 M74 a1 a4 r74 (11 : Int32)))))
set_option maxHeartbeats 4000000 in
set_option maxRecDepth 100000 in
theorem tX0_mendConnections_71 {l : Launch} {E : xE} {c : Nat} {Q : xM → Prop} {k2 : xM → Int32 → Prop} (h_c : xChk c) (hk2 : ∀ (M : xM) (a1 : Int32), k2 M a1 → Gx l E mX0_mendConnections (xRv Q) 2 M [some (.ref c), some (.int a1), none, none, none, none] []) (M : xM) (a1 : Int32) (a4 : Int32) (h : wX0_mendConnections_71 c Q k2 M a1 a4) : Gx l E mX0_mendConnections (xRv Q) 71 M [some (.ref c), some (.int a1), none, none, some (.int a4), none] [] := by
  unfold wX0_mendConnections_71 at h
  refine Gx_run (es := eX0_mendConnections_71) (P := []) (M' := M) (L' := [some (.ref c), some (.int a1), none, none, some (.int a4), none]) (st' := [.int a4, .ref c]) (pc' := 74) kX0_mendConnections_71 rfl trivial rfl ?_
  refine Gx_callV (As := [.int a4]) (by decide +kernel) ml_0_127 okX0_attach mvX0_attach rfl (by decide) (Nat.le_of_ble_eq_true rfl) (xChk_0 h_c) rfl rfl (tX0_attach h_c h) (fun rr M74 qq => ?_)
  obtain ⟨r74, rfl, h⟩ := qq
  show Gx l E mX0_mendConnections _ 77 M74 [some (.ref c), some (.int a1), none, none, some (.int a4), none] [.int r74]
  refine Gx_run (es := eX0_mendConnections_77) (P := []) (M' := M74) (L' := [some (.ref c), some (.int a1), none, none, some (.int a4), some (.int r74)]) (st' := [.int (-9 : Int32), .int r74, .ref c]) (pc' := 84) kX0_mendConnections_77 rfl trivial rfl ?_
  refine Gx_icmp_ne (off := 8) (tgt := 92) (by decide +kernel) (by decide) (fun z => ?_) (fun z => ?_)
  · have h := h.1 z
    refine Gx_run (es := eX0_mendConnections_92) (P := []) (M' := M74) (L' := [some (.ref c), some (.int a1), none, none, some (.int a4), some (.int r74)]) (st' := [.int (10 : Int32), .ref c]) (pc' := 94) kX0_mendConnections_92 rfl trivial rfl ?_
    refine Gx_mask [true, true, false, false, true, true] (L' := [some (.ref c), some (.int a1), none, none, some (.int a4), some (.int r74)]) rfl ?_
    exact tX0_mendConnections_94 h_c  hk2 M74 a1 a4 r74 (10 : Int32) h
  · have h := h.2 z
    refine Gx_run (es := eX0_mendConnections_87) (P := []) (M' := M74) (L' := [some (.ref c), some (.int a1), none, none, some (.int a4), some (.int r74)]) (st' := [.int (11 : Int32), .ref c]) (pc' := 89) kX0_mendConnections_87 rfl trivial rfl ?_
    refine Gx_goto (off := 5) (tgt := 94) (by decide +kernel) (by decide) ?_
    refine Gx_mask [true, true, false, false, true, true] (L' := [some (.ref c), some (.int a1), none, none, some (.int a4), some (.int r74)]) rfl ?_
    exact tX0_mendConnections_94 h_c  hk2 M74 a1 a4 r74 (11 : Int32) h
def wX0_mendConnections_56 (c : Nat) (Q : xM → Prop) (k2 : xM → Int32 → Prop) (M : xM) (a1 : Int32) (a3 : Int32) (s0 : Int32) : Prop :=
    wJ6_numberOfTrailingZeros_0f7a4 M s0 (fun r56 M56 => (((¬ a3 = 0) → (wX0_mendConnections_71 c Q k2 M56 a1 r56)) ∧ ((a3 = 0) → (wX0_cutOff M56 c r56 (fun M68 => wX0_mendConnections_71 c Q k2 M68 a1 r56)))))
set_option maxHeartbeats 4000000 in
set_option maxRecDepth 100000 in
theorem tX0_mendConnections_56 {l : Launch} {E : xE} {c : Nat} {Q : xM → Prop} {k2 : xM → Int32 → Prop} (h_c : xChk c) (hk2 : ∀ (M : xM) (a1 : Int32), k2 M a1 → Gx l E mX0_mendConnections (xRv Q) 2 M [some (.ref c), some (.int a1), none, none, none, none] []) (M : xM) (a1 : Int32) (a3 : Int32) (s0 : Int32) (h : wX0_mendConnections_56 c Q k2 M a1 a3 s0) : Gx l E mX0_mendConnections (xRv Q) 56 M [some (.ref c), some (.int a1), none, some (.int a3), none, none] [.int s0] := by
  unfold wX0_mendConnections_56 at h
  refine Gx_callS (As := [.int s0]) (by decide +kernel) ml_0_119 okJ6_numberOfTrailingZeros_0f7a4 mvJ6_numberOfTrailingZeros_0f7a4 rfl (by decide) (Nat.le_of_ble_eq_true rfl) (tJ6_numberOfTrailingZeros_0f7a4 h) (fun rr M56 qq => ?_)
  obtain ⟨r56, rfl, h⟩ := qq
  show Gx l E mX0_mendConnections _ 59 M56 [some (.ref c), some (.int a1), none, some (.int a3), none, none] [.int r56]
  refine Gx_run (es := eX0_mendConnections_59) (P := []) (M' := M56) (L' := [some (.ref c), some (.int a1), none, some (.int a3), some (.int r56), none]) (st' := [.int a3]) (pc' := 62) kX0_mendConnections_59 rfl trivial rfl ?_
  refine Gx_if_ne (off := 9) (tgt := 71) (by decide +kernel) (by decide) (fun z => ?_) (fun z => ?_)
  · have h := h.1 z
    refine Gx_mask [true, true, false, false, true, false] (L' := [some (.ref c), some (.int a1), none, none, some (.int r56), none]) rfl ?_
    exact tX0_mendConnections_71 h_c  hk2 M56 a1 r56 h
  · have h := h.2 z
    refine Gx_run (es := eX0_mendConnections_65) (P := []) (M' := M56) (L' := [some (.ref c), some (.int a1), none, some (.int a3), some (.int r56), none]) (st' := [.int r56, .ref c]) (pc' := 68) kX0_mendConnections_65 rfl trivial rfl ?_
    refine Gx_callV (As := [.int r56]) (by decide +kernel) ml_0_124 okX0_cutOff mvX0_cutOff rfl (by decide) (Nat.le_of_ble_eq_true rfl) (xChk_0 h_c) rfl rfl (tX0_cutOff h_c h) (fun rr M68 qq => ?_)
    obtain ⟨rfl, h⟩ := qq
    show Gx l E mX0_mendConnections _ 71 M68 [some (.ref c), some (.int a1), none, some (.int a3), some (.int r56), none] []
    refine Gx_mask [true, true, false, false, true, false] (L' := [some (.ref c), some (.int a1), none, none, some (.int r56), none]) rfl ?_
    exact tX0_mendConnections_71 h_c  hk2 M68 a1 r56 h
def lX0_mendConnections_2 (c : Nat) (Q : xM → Prop) : Nat → xM → Int32 → Prop
  | 0 => fun _ _ => False
  | n + 1 => let k2 := lX0_mendConnections_2 c Q n; fun M a1 =>
    ((((10 : Int32) ≤ a1) → (Q M)) ∧ ((¬ (10 : Int32) ≤ a1) → (wX2_directories M (c + 1) (fun r12 M12 => wX2_reachedFrom M12 (c + 1) (0 : Int32) (fun r20 M20 => (((¬ (r12 &&& (r20 ^^^ (-1 : Int32))) = 0) → (wX2_enteredByThese M20 (c + 1) (1023 : Int32) (fun r40 M40 => (((((r12 &&& (r20 ^^^ (-1 : Int32))) &&& (r40 ^^^ (-1 : Int32))) = 0) → (wX0_mendConnections_56 c Q k2 M40 a1 ((r12 &&& (r20 ^^^ (-1 : Int32))) &&& (r40 ^^^ (-1 : Int32))) (r12 &&& (r20 ^^^ (-1 : Int32))))) ∧ ((¬ ((r12 &&& (r20 ^^^ (-1 : Int32))) &&& (r40 ^^^ (-1 : Int32))) = 0) → (wX0_mendConnections_56 c Q k2 M40 a1 ((r12 &&& (r20 ^^^ (-1 : Int32))) &&& (r40 ^^^ (-1 : Int32))) ((r12 &&& (r20 ^^^ (-1 : Int32))) &&& (r40 ^^^ (-1 : Int32))))))))) ∧ (((r12 &&& (r20 ^^^ (-1 : Int32))) = 0) → (Q M20))))))))
set_option maxHeartbeats 4000000 in
set_option maxRecDepth 100000 in
theorem tX0_mendConnections_2 {l : Launch} {E : xE} {c : Nat} {Q : xM → Prop} (h_c : xChk c) (n : Nat) : ∀ (M : xM) (a1 : Int32), lX0_mendConnections_2 c Q n M a1 → Gx l E mX0_mendConnections (xRv Q) 2 M [some (.ref c), some (.int a1), none, none, none, none] [] := by
  induction n with
  | zero => intro M a1 h; exact h.elim
  | succ n hk2 =>
      intro M a1 h
      unfold lX0_mendConnections_2 at h
      dsimp only at h
      refine Gx_run (es := eX0_mendConnections_2) (P := []) (M' := M) (L' := [some (.ref c), some (.int a1), none, none, none, none]) (st' := [.int (10 : Int32), .int a1]) (pc' := 5) kX0_mendConnections_2 rfl trivial rfl ?_
      refine Gx_icmp_ge (off := 107) (tgt := 112) (by decide +kernel) (by decide) (fun z => ?_) (fun z => ?_)
      · have h := h.1 z
        exact Gx_vret (by decide +kernel) rfl ⟨rfl, h⟩
      · have h := h.2 z
        refine Gx_run (es := eX0_mendConnections_8) (P := [xkd c = 0]) (M' := M) (L' := [some (.ref c), some (.int a1), none, none, none, none]) (st' := [.ref (c + 1)]) (pc' := 12) kX0_mendConnections_8 rfl ⟨(xChk_0 h_c), trivial⟩ rfl ?_
        refine Gx_callV (As := []) (by decide +kernel) ml_0_109 okX2_directories mvX2_directories rfl (by decide) (Nat.le_of_ble_eq_true rfl) (xChk_1 h_c) rfl rfl (tX2_directories (xChk_v h_c) h) (fun rr M12 qq => ?_)
        obtain ⟨r12, rfl, h⟩ := qq
        show Gx l E mX0_mendConnections _ 15 M12 [some (.ref c), some (.int a1), none, none, none, none] [.int r12]
        refine Gx_run (es := eX0_mendConnections_15) (P := [xkd c = 0]) (M' := M12) (L' := [some (.ref c), some (.int a1), none, none, none, none]) (st' := [.int (0 : Int32), .ref (c + 1), .int r12]) (pc' := 20) kX0_mendConnections_15 rfl ⟨(xChk_0 h_c), trivial⟩ rfl ?_
        refine Gx_callV (As := [.int (0 : Int32)]) (by decide +kernel) ml_0_112 okX2_reachedFrom mvX2_reachedFrom rfl (by decide) (Nat.le_of_ble_eq_true rfl) (xChk_1 h_c) rfl rfl (tX2_reachedFrom (xChk_v h_c) h) (fun rr M20 qq => ?_)
        obtain ⟨r20, rfl, h⟩ := qq
        show Gx l E mX0_mendConnections _ 23 M20 [some (.ref c), some (.int a1), none, none, none, none] [.int r20, .int r12]
        refine Gx_run (es := eX0_mendConnections_23) (P := []) (M' := M20) (L' := [some (.ref c), some (.int a1), some (.int (r12 &&& (r20 ^^^ (-1 : Int32)))), none, none, none]) (st' := [.int (r12 &&& (r20 ^^^ (-1 : Int32)))]) (pc' := 28) kX0_mendConnections_23 rfl trivial rfl ?_
        refine Gx_if_ne (off := 4) (tgt := 32) (by decide +kernel) (by decide) (fun z => ?_) (fun z => ?_)
        · have h := h.1 z
          refine Gx_run (es := eX0_mendConnections_32) (P := [xkd c = 0]) (M' := M20) (L' := [some (.ref c), some (.int a1), some (.int (r12 &&& (r20 ^^^ (-1 : Int32)))), none, none, none]) (st' := [.int (1023 : Int32), .ref (c + 1), .int (r12 &&& (r20 ^^^ (-1 : Int32)))]) (pc' := 40) kX0_mendConnections_32 rfl ⟨(xChk_0 h_c), trivial⟩ rfl ?_
          refine Gx_callV (As := [.int (1023 : Int32)]) (by decide +kernel) ml_0_116 okX2_enteredByThese mvX2_enteredByThese rfl (by decide) (Nat.le_of_ble_eq_true rfl) (xChk_1 h_c) rfl rfl (tX2_enteredByThese (xChk_v h_c) h) (fun rr M40 qq => ?_)
          obtain ⟨r40, rfl, h⟩ := qq
          show Gx l E mX0_mendConnections _ 43 M40 [some (.ref c), some (.int a1), some (.int (r12 &&& (r20 ^^^ (-1 : Int32)))), none, none, none] [.int r40, .int (r12 &&& (r20 ^^^ (-1 : Int32)))]
          refine Gx_run (es := eX0_mendConnections_43) (P := []) (M' := M40) (L' := [some (.ref c), some (.int a1), some (.int (r12 &&& (r20 ^^^ (-1 : Int32)))), some (.int ((r12 &&& (r20 ^^^ (-1 : Int32))) &&& (r40 ^^^ (-1 : Int32)))), none, none]) (st' := [.int ((r12 &&& (r20 ^^^ (-1 : Int32))) &&& (r40 ^^^ (-1 : Int32)))]) (pc' := 48) kX0_mendConnections_43 rfl trivial rfl ?_
          refine Gx_if_eq (off := 7) (tgt := 55) (by decide +kernel) (by decide) (fun z => ?_) (fun z => ?_)
          · have h := h.1 z
            refine Gx_run (es := eX0_mendConnections_55) (P := []) (M' := M40) (L' := [some (.ref c), some (.int a1), some (.int (r12 &&& (r20 ^^^ (-1 : Int32)))), some (.int ((r12 &&& (r20 ^^^ (-1 : Int32))) &&& (r40 ^^^ (-1 : Int32)))), none, none]) (st' := [.int (r12 &&& (r20 ^^^ (-1 : Int32)))]) (pc' := 56) kX0_mendConnections_55 rfl trivial rfl ?_
            refine Gx_mask [true, true, false, true, false, false] (L' := [some (.ref c), some (.int a1), none, some (.int ((r12 &&& (r20 ^^^ (-1 : Int32))) &&& (r40 ^^^ (-1 : Int32)))), none, none]) rfl ?_
            exact tX0_mendConnections_56 h_c  hk2 M40 a1 ((r12 &&& (r20 ^^^ (-1 : Int32))) &&& (r40 ^^^ (-1 : Int32))) (r12 &&& (r20 ^^^ (-1 : Int32))) h
          · have h := h.2 z
            refine Gx_run (es := eX0_mendConnections_51) (P := []) (M' := M40) (L' := [some (.ref c), some (.int a1), some (.int (r12 &&& (r20 ^^^ (-1 : Int32)))), some (.int ((r12 &&& (r20 ^^^ (-1 : Int32))) &&& (r40 ^^^ (-1 : Int32)))), none, none]) (st' := [.int ((r12 &&& (r20 ^^^ (-1 : Int32))) &&& (r40 ^^^ (-1 : Int32)))]) (pc' := 52) kX0_mendConnections_51 rfl trivial rfl ?_
            refine Gx_goto (off := 4) (tgt := 56) (by decide +kernel) (by decide) ?_
            refine Gx_mask [true, true, false, true, false, false] (L' := [some (.ref c), some (.int a1), none, some (.int ((r12 &&& (r20 ^^^ (-1 : Int32))) &&& (r40 ^^^ (-1 : Int32)))), none, none]) rfl ?_
            exact tX0_mendConnections_56 h_c  hk2 M40 a1 ((r12 &&& (r20 ^^^ (-1 : Int32))) &&& (r40 ^^^ (-1 : Int32))) ((r12 &&& (r20 ^^^ (-1 : Int32))) &&& (r40 ^^^ (-1 : Int32))) h
        · have h := h.2 z
          exact Gx_vret (by decide +kernel) rfl ⟨rfl, h⟩
def wX0_mendConnections (M : xM) (c : Nat) (Q : xM → Prop) : Prop :=
    (∃ n : Nat, lX0_mendConnections_2 c Q n M (0 : Int32))
set_option maxHeartbeats 4000000 in
set_option maxRecDepth 100000 in
theorem tX0_mendConnections {l : Launch} {E : xE} {M : xM} {c : Nat} {Q : xM → Prop} (h_c : xChk c) (h : wX0_mendConnections M c Q) : Ct l E mX0_mendConnections [.ref c] M (xRv Q) := by
  refine Ct_of (by decide +kernel) rfl (Nat.le_of_ble_eq_true rfl) ?_
  unfold wX0_mendConnections at h
  show Gx l E mX0_mendConnections (xRv Q) 0 M [some (.ref c), none, none, none, none, none] []
  refine Gx_run (es := eX0_mendConnections_0) (P := []) (M' := M) (L' := [some (.ref c), some (.int (0 : Int32)), none, none, none, none]) (st' := []) (pc' := 2) kX0_mendConnections_0 rfl trivial rfl ?_
  refine Gx_mask [true, true, false, false, false, false] (L' := [some (.ref c), some (.int (0 : Int32)), none, none, none, none]) rfl ?_
  obtain ⟨n, h⟩ := h
  exact tX0_mendConnections_2 h_c  n M (0 : Int32) h
def eX0_mendCounts_0 : List xI := [(.aload_n 0, 1, 0, 0, 0), (.getfield 12, 3, 0, 0, 0), (.aload_n 0, 1, 0, 0, 0), (.getfield 32, 3, 0, 5, 0)]
theorem kX0_mendCounts_0 : xcode (xmb mX0_mendCounts) (xmo mX0_mendCounts) 0 eX0_mendCounts_0 = true := by decide +kernel
def eX0_mendCounts_11 : List xI := [(.iconst 0, 1, 0, 0, (0)), (.istore_n 1, 1, 0, 0, 0)]
theorem kX0_mendCounts_11 : xcode (xmb mX0_mendCounts) (xmo mX0_mendCounts) 11 eX0_mendCounts_11 = true := by decide +kernel
def eX0_mendCounts_13 : List xI := [(.iload_n 1, 1, 0, 0, 0), (.bipush 10, 2, 0, 0, (10))]
theorem kX0_mendCounts_13 : xcode (xmb mX0_mendCounts) (xmo mX0_mendCounts) 13 eX0_mendCounts_13 = true := by decide +kernel
def eX0_mendCounts_19 : List xI := [(.aload_n 0, 1, 0, 0, 0), (.getfield 12, 3, 0, 0, 0), (.getfield 72, 3, 2, 0, 0), (.iload_n 1, 1, 0, 0, 0), (.iaload, 1, 0, 0, 0)]
theorem kX0_mendCounts_19 : xcode (xmb mX0_mendCounts) (xmo mX0_mendCounts) 19 eX0_mendCounts_19 = true := by decide +kernel
def eX0_mendCounts_46 : List xI := [(.iconst 0, 1, 0, 0, (0))]
theorem kX0_mendCounts_46 : xcode (xmb mX0_mendCounts) (xmo mX0_mendCounts) 46 eX0_mendCounts_46 = true := by decide +kernel
def eX0_mendCounts_47 : List xI := [(.istore_n 2, 1, 0, 0, 0), (.iload_n 2, 1, 0, 0, 0)]
theorem kX0_mendCounts_47 : xcode (xmb mX0_mendCounts) (xmo mX0_mendCounts) 47 eX0_mendCounts_47 = true := by decide +kernel
def eX0_mendCounts_104 : List xI := [(.aload_n 0, 1, 0, 0, 0), (.getfield 12, 3, 0, 0, 0), (.getfield 155, 3, 2, 1, 0), (.iload_n 1, 1, 0, 0, 0), (.iaload, 1, 0, 0, 0), (.istore_n 3, 1, 0, 0, 0), (.bipush 9, 2, 0, 0, (9)), (.aload_n 0, 1, 0, 0, 0), (.getfield 32, 3, 0, 5, 0), (.iload_n 1, 1, 0, 0, 0), (.iaload, 1, 0, 0, 0)]
theorem kX0_mendCounts_104 : xcode (xmb mX0_mendCounts) (xmo mX0_mendCounts) 104 eX0_mendCounts_104 = true := by decide +kernel
def eX0_mendCounts_125 : List xI := [(.istore 4, 2, 0, 0, 0), (.iload_n 3, 1, 0, 0, 0), (.iload 4, 2, 0, 0, 0)]
theorem kX0_mendCounts_125 : xcode (xmb mX0_mendCounts) (xmo mX0_mendCounts) 125 eX0_mendCounts_125 = true := by decide +kernel
def eX0_mendCounts_155 : List xI := [(.iinc 1 1, 3, 0, 0, (1))]
theorem kX0_mendCounts_155 : xcode (xmb mX0_mendCounts) (xmo mX0_mendCounts) 155 eX0_mendCounts_155 = true := by decide +kernel
def eX0_mendCounts_133 : List xI := [(.aload_n 0, 1, 0, 0, 0), (.bipush 14, 2, 0, 0, (14)), (.iload_n 1, 1, 0, 0, 0), (.iload_n 3, 1, 0, 0, 0)]
theorem kX0_mendCounts_133 : xcode (xmb mX0_mendCounts) (xmo mX0_mendCounts) 133 eX0_mendCounts_133 = true := by decide +kernel
def eX0_mendCounts_144 : List xI := [(.aload_n 0, 1, 0, 0, 0), (.getfield 12, 3, 0, 0, 0), (.getfield 155, 3, 2, 1, 0), (.iload_n 1, 1, 0, 0, 0), (.iload 4, 2, 0, 0, 0), (.iastore, 1, 0, 0, 0)]
theorem kX0_mendCounts_144 : xcode (xmb mX0_mendCounts) (xmo mX0_mendCounts) 144 eX0_mendCounts_144 = true := by decide +kernel
def eX0_mendCounts_52 : List xI := [(.aload_n 0, 1, 0, 0, 0), (.getfield 32, 3, 0, 5, 0), (.iload_n 1, 1, 0, 0, 0), (.iaload, 1, 0, 0, 0)]
theorem kX0_mendCounts_52 : xcode (xmb mX0_mendCounts) (xmo mX0_mendCounts) 52 eX0_mendCounts_52 = true := by decide +kernel
def eX0_mendCounts_61 : List xI := [(.aload_n 0, 1, 0, 0, 0), (.iload_n 1, 1, 0, 0, 0)]
theorem kX0_mendCounts_61 : xcode (xmb mX0_mendCounts) (xmo mX0_mendCounts) 61 eX0_mendCounts_61 = true := by decide +kernel
def eX0_mendCounts_66 : List xI := [(.istore_n 3, 1, 0, 0, 0), (.aload_n 0, 1, 0, 0, 0), (.bipush 13, 2, 0, 0, (13)), (.iload_n 1, 1, 0, 0, 0), (.iload_n 3, 1, 0, 0, 0), (.bipush (-9), 2, 0, 0, (-9))]
theorem kX0_mendCounts_66 : xcode (xmb mX0_mendCounts) (xmo mX0_mendCounts) 66 eX0_mendCounts_66 = true := by decide +kernel
def eX0_mendCounts_82 : List xI := [(.iload_n 3, 1, 0, 0, 0)]
theorem kX0_mendCounts_82 : xcode (xmb mX0_mendCounts) (xmo mX0_mendCounts) 82 eX0_mendCounts_82 = true := by decide +kernel
def eX0_mendCounts_86 : List xI := [(.pop, 1, 0, 0, 0), (.aload_n 0, 1, 0, 0, 0), (.getfield 32, 3, 0, 5, 0), (.iload_n 1, 1, 0, 0, 0), (.iload_n 3, 1, 0, 0, 0), (.bipush (-9), 2, 0, 0, (-9))]
theorem kX0_mendCounts_86 : xcode (xmb mX0_mendCounts) (xmo mX0_mendCounts) 86 eX0_mendCounts_86 = true := by decide +kernel
def eX0_mendCounts_102 : List xI := [(.iconst 1, 1, 0, 0, (1))]
theorem kX0_mendCounts_102 : xcode (xmb mX0_mendCounts) (xmo mX0_mendCounts) 102 eX0_mendCounts_102 = true := by decide +kernel
def eX0_mendCounts_103 : List xI := [(.iastore, 1, 0, 0, 0)]
theorem kX0_mendCounts_103 : xcode (xmb mX0_mendCounts) (xmo mX0_mendCounts) 103 eX0_mendCounts_103 = true := by decide +kernel
def eX0_mendCounts_98 : List xI := [(.iconst 0, 1, 0, 0, (0))]
theorem kX0_mendCounts_98 : xcode (xmb mX0_mendCounts) (xmo mX0_mendCounts) 98 eX0_mendCounts_98 = true := by decide +kernel
def eX0_mendCounts_77 : List xI := [(.bipush 6, 2, 0, 0, (6))]
theorem kX0_mendCounts_77 : xcode (xmb mX0_mendCounts) (xmo mX0_mendCounts) 77 eX0_mendCounts_77 = true := by decide +kernel
def eX0_mendCounts_31 : List xI := [(.aload_n 0, 1, 0, 0, 0), (.getfield 12, 3, 0, 0, 0), (.iload_n 1, 1, 0, 0, 0)]
theorem kX0_mendCounts_31 : xcode (xmb mX0_mendCounts) (xmo mX0_mendCounts) 31 eX0_mendCounts_31 = true := by decide +kernel
def eX0_mendCounts_42 : List xI := [(.iconst 1, 1, 0, 0, (1))]
theorem kX0_mendCounts_42 : xcode (xmb mX0_mendCounts) (xmo mX0_mendCounts) 42 eX0_mendCounts_42 = true := by decide +kernel
def wX0_mendCounts_155 (c : Nat) (Q : xM → Prop) (k13 : xM → Int32 → Prop) (M : xM) (a1 : Int32) : Prop :=
    k13 M (a1 + (1 : Int32))
set_option maxHeartbeats 4000000 in
set_option maxRecDepth 100000 in
theorem tX0_mendCounts_155 {l : Launch} {E : xE} {c : Nat} {Q : xM → Prop} {k13 : xM → Int32 → Prop} (h_c : xChk c) (hk13 : ∀ (M : xM) (a1 : Int32), k13 M a1 → Gx l E mX0_mendCounts (xRv Q) 13 M [some (.ref c), some (.int a1), none, none, none] []) (M : xM) (a1 : Int32) (h : wX0_mendCounts_155 c Q k13 M a1) : Gx l E mX0_mendCounts (xRv Q) 155 M [some (.ref c), some (.int a1), none, none, none] [] := by
  unfold wX0_mendCounts_155 at h
  refine Gx_run (es := eX0_mendCounts_155) (P := []) (M' := M) (L' := [some (.ref c), some (.int (a1 + (1 : Int32))), none, none, none]) (st' := []) (pc' := 158) kX0_mendCounts_155 rfl trivial rfl ?_
  refine Gx_goto (off := -145) (tgt := 13) (by decide +kernel) (by decide) ?_
  refine Gx_mask [true, true, false, false, false] (L' := [some (.ref c), some (.int (a1 + (1 : Int32))), none, none, none]) rfl ?_
  exact hk13 M (a1 + (1 : Int32)) h
def wX0_mendCounts_104 (c : Nat) (Q : xM → Prop) (k13 : xM → Int32 → Prop) (M : xM) (a1 : Int32) : Prop :=
    (vp_in a1 10) ∧ ((((M (c + 3) a1.toNatClampNeg) = (if (M (c + 11) a1.toNatClampNeg) < (9 : Int32) then (M (c + 11) a1.toNatClampNeg) else (9 : Int32))) → (wX0_mendCounts_155 c Q k13 M a1)) ∧ ((¬ (M (c + 3) a1.toNatClampNeg) = (if (M (c + 11) a1.toNatClampNeg) < (9 : Int32) then (M (c + 11) a1.toNatClampNeg) else (9 : Int32))) → (wX0_asks M c (14 : Int32) a1 (M (c + 3) a1.toNatClampNeg) (fun r138 M138 => (((r138 = 0) → (wX0_mendCounts_155 c Q k13 M138 a1)) ∧ ((¬ r138 = 0) → ((vp_in a1 10) ∧ wX0_mendCounts_155 c Q k13 (xup M138 (c + 3) a1.toNatClampNeg (if (M (c + 11) a1.toNatClampNeg) < (9 : Int32) then (M (c + 11) a1.toNatClampNeg) else (9 : Int32))) a1)))))))
set_option maxHeartbeats 4000000 in
set_option maxRecDepth 100000 in
theorem tX0_mendCounts_104 {l : Launch} {E : xE} {c : Nat} {Q : xM → Prop} {k13 : xM → Int32 → Prop} (h_c : xChk c) (hk13 : ∀ (M : xM) (a1 : Int32), k13 M a1 → Gx l E mX0_mendCounts (xRv Q) 13 M [some (.ref c), some (.int a1), none, none, none] []) (M : xM) (a1 : Int32) (h : wX0_mendCounts_104 c Q k13 M a1) : Gx l E mX0_mendCounts (xRv Q) 104 M [some (.ref c), some (.int a1), none, none, none] [] := by
  unfold wX0_mendCounts_104 at h
  obtain ⟨g104_0, h⟩ := h
  refine Gx_run (es := eX0_mendCounts_104) (P := [xkd c = 0, xkd (c + 1) = 2, xkd (c + 3) = 5, vp_in a1 (xln (c + 3)), xkd c = 0, xkd (c + 11) = 5, vp_in a1 (xln (c + 11))]) (M' := M) (L' := [some (.ref c), some (.int a1), none, some (.int (M (c + 3) a1.toNatClampNeg)), none]) (st' := [.int (M (c + 11) a1.toNatClampNeg), .int (9 : Int32)]) (pc' := 122) kX0_mendCounts_104 rfl ⟨(xChk_0 h_c), (xChk_1 h_c), (xChk_3 h_c), (by rw [xChk_l3 h_c]; exact g104_0), (xChk_0 h_c), (xChk_11 h_c), (by rw [xChk_l11 h_c]; exact g104_0), trivial⟩ rfl ?_
  refine Gx_mmin (by decide +kernel) ml_0_158 (by decide) (Nat.le_of_ble_eq_true rfl) ?_
  refine Gx_run (es := eX0_mendCounts_125) (P := []) (M' := M) (L' := [some (.ref c), some (.int a1), none, some (.int (M (c + 3) a1.toNatClampNeg)), some (.int (if (M (c + 11) a1.toNatClampNeg) < (9 : Int32) then (M (c + 11) a1.toNatClampNeg) else (9 : Int32)))]) (st' := [.int (if (M (c + 11) a1.toNatClampNeg) < (9 : Int32) then (M (c + 11) a1.toNatClampNeg) else (9 : Int32)), .int (M (c + 3) a1.toNatClampNeg)]) (pc' := 130) kX0_mendCounts_125 rfl trivial rfl ?_
  refine Gx_icmp_eq (off := 25) (tgt := 155) (by decide +kernel) (by decide) (fun z => ?_) (fun z => ?_)
  · have h := h.1 z
    refine Gx_mask [true, true, false, false, false] (L' := [some (.ref c), some (.int a1), none, none, none]) rfl ?_
    exact tX0_mendCounts_155 h_c  hk13 M a1 h
  · have h := h.2 z
    refine Gx_run (es := eX0_mendCounts_133) (P := []) (M' := M) (L' := [some (.ref c), some (.int a1), none, some (.int (M (c + 3) a1.toNatClampNeg)), some (.int (if (M (c + 11) a1.toNatClampNeg) < (9 : Int32) then (M (c + 11) a1.toNatClampNeg) else (9 : Int32)))]) (st' := [.int (M (c + 3) a1.toNatClampNeg), .int a1, .int (14 : Int32), .ref c]) (pc' := 138) kX0_mendCounts_133 rfl trivial rfl ?_
    refine Gx_callV (As := [.int (14 : Int32), .int a1, .int (M (c + 3) a1.toNatClampNeg)]) (by decide +kernel) ml_0_64 okX0_asks mvX0_asks rfl (by decide) (Nat.le_of_ble_eq_true rfl) (xChk_0 h_c) rfl rfl (tX0_asks h_c h) (fun rr M138 qq => ?_)
    obtain ⟨r138, rfl, h⟩ := qq
    show Gx l E mX0_mendCounts _ 141 M138 [some (.ref c), some (.int a1), none, some (.int (M (c + 3) a1.toNatClampNeg)), some (.int (if (M (c + 11) a1.toNatClampNeg) < (9 : Int32) then (M (c + 11) a1.toNatClampNeg) else (9 : Int32)))] [.int r138]
    refine Gx_if_eq (off := 14) (tgt := 155) (by decide +kernel) (by decide) (fun z => ?_) (fun z => ?_)
    · have h := h.1 z
      refine Gx_mask [true, true, false, false, false] (L' := [some (.ref c), some (.int a1), none, none, none]) rfl ?_
      exact tX0_mendCounts_155 h_c  hk13 M138 a1 h
    · have h := h.2 z
      obtain ⟨g144_0, h⟩ := h
      refine Gx_run (es := eX0_mendCounts_144) (P := [xkd c = 0, xkd (c + 1) = 2, xkd (c + 3) = 5, vp_in a1 (xln (c + 3))]) (M' := (xup M138 (c + 3) a1.toNatClampNeg (if (M (c + 11) a1.toNatClampNeg) < (9 : Int32) then (M (c + 11) a1.toNatClampNeg) else (9 : Int32)))) (L' := [some (.ref c), some (.int a1), none, some (.int (M (c + 3) a1.toNatClampNeg)), some (.int (if (M (c + 11) a1.toNatClampNeg) < (9 : Int32) then (M (c + 11) a1.toNatClampNeg) else (9 : Int32)))]) (st' := []) (pc' := 155) kX0_mendCounts_144 rfl ⟨(xChk_0 h_c), (xChk_1 h_c), (xChk_3 h_c), (by rw [xChk_l3 h_c]; exact g144_0), trivial⟩ rfl ?_
      refine Gx_mask [true, true, false, false, false] (L' := [some (.ref c), some (.int a1), none, none, none]) rfl ?_
      exact tX0_mendCounts_155 h_c  hk13 (xup M138 (c + 3) a1.toNatClampNeg (if (M (c + 11) a1.toNatClampNeg) < (9 : Int32) then (M (c + 11) a1.toNatClampNeg) else (9 : Int32))) a1 h
def wX0_mendCounts_103 (c : Nat) (Q : xM → Prop) (k13 : xM → Int32 → Prop) (M : xM) (a1 : Int32) (s0 : Int32) (s1 : Int32) : Prop :=
    (vp_in s1 10) ∧ wX0_mendCounts_104 c Q k13 (xup M (c + 11) s1.toNatClampNeg s0) a1
set_option maxHeartbeats 4000000 in
set_option maxRecDepth 100000 in
theorem tX0_mendCounts_103 {l : Launch} {E : xE} {c : Nat} {Q : xM → Prop} {k13 : xM → Int32 → Prop} (h_c : xChk c) (hk13 : ∀ (M : xM) (a1 : Int32), k13 M a1 → Gx l E mX0_mendCounts (xRv Q) 13 M [some (.ref c), some (.int a1), none, none, none] []) (M : xM) (a1 : Int32) (s0 : Int32) (s1 : Int32) (h : wX0_mendCounts_103 c Q k13 M a1 s0 s1) : Gx l E mX0_mendCounts (xRv Q) 103 M [some (.ref c), some (.int a1), none, none, none] [.int s0, .int s1, .ref (c + 11)] := by
  unfold wX0_mendCounts_103 at h
  obtain ⟨g103_0, h⟩ := h
  refine Gx_run (es := eX0_mendCounts_103) (P := [xkd (c + 11) = 5, vp_in s1 (xln (c + 11))]) (M' := (xup M (c + 11) s1.toNatClampNeg s0)) (L' := [some (.ref c), some (.int a1), none, none, none]) (st' := []) (pc' := 104) kX0_mendCounts_103 rfl ⟨(xChk_11 h_c), (by rw [xChk_l11 h_c]; exact g103_0), trivial⟩ rfl ?_
  refine Gx_mask [true, true, false, false, false] (L' := [some (.ref c), some (.int a1), none, none, none]) rfl ?_
  exact tX0_mendCounts_104 h_c  hk13 (xup M (c + 11) s1.toNatClampNeg s0) a1 h
def wX0_mendCounts_83 (c : Nat) (Q : xM → Prop) (k13 : xM → Int32 → Prop) (M : xM) (a1 : Int32) (a3 : Int32) (s0 : Int32) (s1 : Int32) : Prop :=
    wX0_asks M c (13 : Int32) s1 s0 (fun r83 M83 => (((¬ a3 = (-9 : Int32)) → (wX0_mendCounts_103 c Q k13 M83 a1 (1 : Int32) a1)) ∧ ((a3 = (-9 : Int32)) → (wX0_mendCounts_103 c Q k13 M83 a1 (0 : Int32) a1))))
set_option maxHeartbeats 4000000 in
set_option maxRecDepth 100000 in
theorem tX0_mendCounts_83 {l : Launch} {E : xE} {c : Nat} {Q : xM → Prop} {k13 : xM → Int32 → Prop} (h_c : xChk c) (hk13 : ∀ (M : xM) (a1 : Int32), k13 M a1 → Gx l E mX0_mendCounts (xRv Q) 13 M [some (.ref c), some (.int a1), none, none, none] []) (M : xM) (a1 : Int32) (a3 : Int32) (s0 : Int32) (s1 : Int32) (h : wX0_mendCounts_83 c Q k13 M a1 a3 s0 s1) : Gx l E mX0_mendCounts (xRv Q) 83 M [some (.ref c), some (.int a1), none, some (.int a3), none] [.int s0, .int s1, .int (13 : Int32), .ref c] := by
  unfold wX0_mendCounts_83 at h
  refine Gx_callV (As := [.int (13 : Int32), .int s1, .int s0]) (by decide +kernel) ml_0_64 okX0_asks mvX0_asks rfl (by decide) (Nat.le_of_ble_eq_true rfl) (xChk_0 h_c) rfl rfl (tX0_asks h_c h) (fun rr M83 qq => ?_)
  obtain ⟨r83, rfl, h⟩ := qq
  show Gx l E mX0_mendCounts _ 86 M83 [some (.ref c), some (.int a1), none, some (.int a3), none] [.int r83]
  refine Gx_run (es := eX0_mendCounts_86) (P := [xkd c = 0]) (M' := M83) (L' := [some (.ref c), some (.int a1), none, some (.int a3), none]) (st' := [.int (-9 : Int32), .int a3, .int a1, .ref (c + 11)]) (pc' := 95) kX0_mendCounts_86 rfl ⟨(xChk_0 h_c), trivial⟩ rfl ?_
  refine Gx_icmp_ne (off := 7) (tgt := 102) (by decide +kernel) (by decide) (fun z => ?_) (fun z => ?_)
  · have h := h.1 z
    refine Gx_run (es := eX0_mendCounts_102) (P := []) (M' := M83) (L' := [some (.ref c), some (.int a1), none, some (.int a3), none]) (st' := [.int (1 : Int32), .int a1, .ref (c + 11)]) (pc' := 103) kX0_mendCounts_102 rfl trivial rfl ?_
    refine Gx_mask [true, true, false, false, false] (L' := [some (.ref c), some (.int a1), none, none, none]) rfl ?_
    exact tX0_mendCounts_103 h_c  hk13 M83 a1 (1 : Int32) a1 h
  · have h := h.2 z
    refine Gx_run (es := eX0_mendCounts_98) (P := []) (M' := M83) (L' := [some (.ref c), some (.int a1), none, some (.int a3), none]) (st' := [.int (0 : Int32), .int a1, .ref (c + 11)]) (pc' := 99) kX0_mendCounts_98 rfl trivial rfl ?_
    refine Gx_goto (off := 4) (tgt := 103) (by decide +kernel) (by decide) ?_
    refine Gx_mask [true, true, false, false, false] (L' := [some (.ref c), some (.int a1), none, none, none]) rfl ?_
    exact tX0_mendCounts_103 h_c  hk13 M83 a1 (0 : Int32) a1 h
def wX0_mendCounts_47 (c : Nat) (Q : xM → Prop) (k13 : xM → Int32 → Prop) (M : xM) (a1 : Int32) (s0 : Int32) : Prop :=
    (((s0 = 0) → (wX0_mendCounts_104 c Q k13 M a1)) ∧ ((¬ s0 = 0) → ((vp_in a1 10) ∧ (((¬ (M (c + 11) a1.toNatClampNeg) = 0) → (wX0_mendCounts_104 c Q k13 M a1)) ∧ (((M (c + 11) a1.toNatClampNeg) = 0) → (wX0_attach M c a1 (fun r63 M63 => (((¬ r63 = (-9 : Int32)) → (wX0_mendCounts_83 c Q k13 M63 a1 r63 r63 a1)) ∧ ((r63 = (-9 : Int32)) → (wX0_mendCounts_83 c Q k13 M63 a1 r63 (6 : Int32) a1))))))))))
set_option maxHeartbeats 4000000 in
set_option maxRecDepth 100000 in
theorem tX0_mendCounts_47 {l : Launch} {E : xE} {c : Nat} {Q : xM → Prop} {k13 : xM → Int32 → Prop} (h_c : xChk c) (hk13 : ∀ (M : xM) (a1 : Int32), k13 M a1 → Gx l E mX0_mendCounts (xRv Q) 13 M [some (.ref c), some (.int a1), none, none, none] []) (M : xM) (a1 : Int32) (s0 : Int32) (h : wX0_mendCounts_47 c Q k13 M a1 s0) : Gx l E mX0_mendCounts (xRv Q) 47 M [some (.ref c), some (.int a1), none, none, none] [.int s0] := by
  unfold wX0_mendCounts_47 at h
  refine Gx_run (es := eX0_mendCounts_47) (P := []) (M' := M) (L' := [some (.ref c), some (.int a1), some (.int s0), none, none]) (st' := [.int s0]) (pc' := 49) kX0_mendCounts_47 rfl trivial rfl ?_
  refine Gx_if_eq (off := 55) (tgt := 104) (by decide +kernel) (by decide) (fun z => ?_) (fun z => ?_)
  · have h := h.1 z
    refine Gx_mask [true, true, false, false, false] (L' := [some (.ref c), some (.int a1), none, none, none]) rfl ?_
    exact tX0_mendCounts_104 h_c  hk13 M a1 h
  · have h := h.2 z
    obtain ⟨g52_0, h⟩ := h
    refine Gx_run (es := eX0_mendCounts_52) (P := [xkd c = 0, xkd (c + 11) = 5, vp_in a1 (xln (c + 11))]) (M' := M) (L' := [some (.ref c), some (.int a1), some (.int s0), none, none]) (st' := [.int (M (c + 11) a1.toNatClampNeg)]) (pc' := 58) kX0_mendCounts_52 rfl ⟨(xChk_0 h_c), (xChk_11 h_c), (by rw [xChk_l11 h_c]; exact g52_0), trivial⟩ rfl ?_
    refine Gx_if_ne (off := 46) (tgt := 104) (by decide +kernel) (by decide) (fun z => ?_) (fun z => ?_)
    · have h := h.1 z
      refine Gx_mask [true, true, false, false, false] (L' := [some (.ref c), some (.int a1), none, none, none]) rfl ?_
      exact tX0_mendCounts_104 h_c  hk13 M a1 h
    · have h := h.2 z
      refine Gx_run (es := eX0_mendCounts_61) (P := []) (M' := M) (L' := [some (.ref c), some (.int a1), some (.int s0), none, none]) (st' := [.int a1, .ref c]) (pc' := 63) kX0_mendCounts_61 rfl trivial rfl ?_
      refine Gx_callV (As := [.int a1]) (by decide +kernel) ml_0_127 okX0_attach mvX0_attach rfl (by decide) (Nat.le_of_ble_eq_true rfl) (xChk_0 h_c) rfl rfl (tX0_attach h_c h) (fun rr M63 qq => ?_)
      obtain ⟨r63, rfl, h⟩ := qq
      show Gx l E mX0_mendCounts _ 66 M63 [some (.ref c), some (.int a1), some (.int s0), none, none] [.int r63]
      refine Gx_run (es := eX0_mendCounts_66) (P := []) (M' := M63) (L' := [some (.ref c), some (.int a1), some (.int s0), some (.int r63), none]) (st' := [.int (-9 : Int32), .int r63, .int a1, .int (13 : Int32), .ref c]) (pc' := 74) kX0_mendCounts_66 rfl trivial rfl ?_
      refine Gx_icmp_ne (off := 8) (tgt := 82) (by decide +kernel) (by decide) (fun z => ?_) (fun z => ?_)
      · have h := h.1 z
        refine Gx_run (es := eX0_mendCounts_82) (P := []) (M' := M63) (L' := [some (.ref c), some (.int a1), some (.int s0), some (.int r63), none]) (st' := [.int r63, .int a1, .int (13 : Int32), .ref c]) (pc' := 83) kX0_mendCounts_82 rfl trivial rfl ?_
        refine Gx_mask [true, true, false, true, false] (L' := [some (.ref c), some (.int a1), none, some (.int r63), none]) rfl ?_
        exact tX0_mendCounts_83 h_c  hk13 M63 a1 r63 r63 a1 h
      · have h := h.2 z
        refine Gx_run (es := eX0_mendCounts_77) (P := []) (M' := M63) (L' := [some (.ref c), some (.int a1), some (.int s0), some (.int r63), none]) (st' := [.int (6 : Int32), .int a1, .int (13 : Int32), .ref c]) (pc' := 79) kX0_mendCounts_77 rfl trivial rfl ?_
        refine Gx_goto (off := 4) (tgt := 83) (by decide +kernel) (by decide) ?_
        refine Gx_mask [true, true, false, true, false] (L' := [some (.ref c), some (.int a1), none, some (.int r63), none]) rfl ?_
        exact tX0_mendCounts_83 h_c  hk13 M63 a1 r63 (6 : Int32) a1 h
def wX0_mendCounts_46 (c : Nat) (Q : xM → Prop) (k13 : xM → Int32 → Prop) (M : xM) (a1 : Int32) : Prop :=
    wX0_mendCounts_47 c Q k13 M a1 (0 : Int32)
set_option maxHeartbeats 4000000 in
set_option maxRecDepth 100000 in
theorem tX0_mendCounts_46 {l : Launch} {E : xE} {c : Nat} {Q : xM → Prop} {k13 : xM → Int32 → Prop} (h_c : xChk c) (hk13 : ∀ (M : xM) (a1 : Int32), k13 M a1 → Gx l E mX0_mendCounts (xRv Q) 13 M [some (.ref c), some (.int a1), none, none, none] []) (M : xM) (a1 : Int32) (h : wX0_mendCounts_46 c Q k13 M a1) : Gx l E mX0_mendCounts (xRv Q) 46 M [some (.ref c), some (.int a1), none, none, none] [] := by
  unfold wX0_mendCounts_46 at h
  refine Gx_run (es := eX0_mendCounts_46) (P := []) (M' := M) (L' := [some (.ref c), some (.int a1), none, none, none]) (st' := [.int (0 : Int32)]) (pc' := 47) kX0_mendCounts_46 rfl trivial rfl ?_
  refine Gx_mask [true, true, false, false, false] (L' := [some (.ref c), some (.int a1), none, none, none]) rfl ?_
  exact tX0_mendCounts_47 h_c  hk13 M a1 (0 : Int32) h
def lX0_mendCounts_13 (c : Nat) (Q : xM → Prop) : Nat → xM → Int32 → Prop
  | 0 => fun _ _ => False
  | n + 1 => let k13 := lX0_mendCounts_13 c Q n; fun M a1 =>
    ((((10 : Int32) ≤ a1) → (Q M)) ∧ ((¬ (10 : Int32) ≤ a1) → ((vp_in a1 10) ∧ ((((M (c + 2) a1.toNatClampNeg) = 0) → (wX0_mendCounts_46 c Q k13 M a1)) ∧ ((¬ (M (c + 2) a1.toNatClampNeg) = 0) → (wX2_isDirectory M (c + 1) a1 (fun r36 M36 => (((¬ r36 = 0) → (wX0_mendCounts_46 c Q k13 M36 a1)) ∧ ((r36 = 0) → (wX0_mendCounts_47 c Q k13 M36 a1 (1 : Int32)))))))))))
set_option maxHeartbeats 4000000 in
set_option maxRecDepth 100000 in
theorem tX0_mendCounts_13 {l : Launch} {E : xE} {c : Nat} {Q : xM → Prop} (h_c : xChk c) (n : Nat) : ∀ (M : xM) (a1 : Int32), lX0_mendCounts_13 c Q n M a1 → Gx l E mX0_mendCounts (xRv Q) 13 M [some (.ref c), some (.int a1), none, none, none] [] := by
  induction n with
  | zero => intro M a1 h; exact h.elim
  | succ n hk13 =>
      intro M a1 h
      unfold lX0_mendCounts_13 at h
      dsimp only at h
      refine Gx_run (es := eX0_mendCounts_13) (P := []) (M' := M) (L' := [some (.ref c), some (.int a1), none, none, none]) (st' := [.int (10 : Int32), .int a1]) (pc' := 16) kX0_mendCounts_13 rfl trivial rfl ?_
      refine Gx_icmp_ge (off := 145) (tgt := 161) (by decide +kernel) (by decide) (fun z => ?_) (fun z => ?_)
      · have h := h.1 z
        exact Gx_vret (by decide +kernel) rfl ⟨rfl, h⟩
      · have h := h.2 z
        obtain ⟨g19_0, h⟩ := h
        refine Gx_run (es := eX0_mendCounts_19) (P := [xkd c = 0, xkd (c + 1) = 2, xkd (c + 2) = 5, vp_in a1 (xln (c + 2))]) (M' := M) (L' := [some (.ref c), some (.int a1), none, none, none]) (st' := [.int (M (c + 2) a1.toNatClampNeg)]) (pc' := 28) kX0_mendCounts_19 rfl ⟨(xChk_0 h_c), (xChk_1 h_c), (xChk_2 h_c), (by rw [xChk_l2 h_c]; exact g19_0), trivial⟩ rfl ?_
        refine Gx_if_eq (off := 18) (tgt := 46) (by decide +kernel) (by decide) (fun z => ?_) (fun z => ?_)
        · have h := h.1 z
          refine Gx_mask [true, true, false, false, false] (L' := [some (.ref c), some (.int a1), none, none, none]) rfl ?_
          exact tX0_mendCounts_46 h_c  hk13 M a1 h
        · have h := h.2 z
          refine Gx_run (es := eX0_mendCounts_31) (P := [xkd c = 0]) (M' := M) (L' := [some (.ref c), some (.int a1), none, none, none]) (st' := [.int a1, .ref (c + 1)]) (pc' := 36) kX0_mendCounts_31 rfl ⟨(xChk_0 h_c), trivial⟩ rfl ?_
          refine Gx_callV (As := [.int a1]) (by decide +kernel) ml_0_60 okX2_isDirectory mvX2_isDirectory rfl (by decide) (Nat.le_of_ble_eq_true rfl) (xChk_1 h_c) rfl rfl (tX2_isDirectory (xChk_v h_c) h) (fun rr M36 qq => ?_)
          obtain ⟨r36, rfl, h⟩ := qq
          show Gx l E mX0_mendCounts _ 39 M36 [some (.ref c), some (.int a1), none, none, none] [.int r36]
          refine Gx_if_ne (off := 7) (tgt := 46) (by decide +kernel) (by decide) (fun z => ?_) (fun z => ?_)
          · have h := h.1 z
            refine Gx_mask [true, true, false, false, false] (L' := [some (.ref c), some (.int a1), none, none, none]) rfl ?_
            exact tX0_mendCounts_46 h_c  hk13 M36 a1 h
          · have h := h.2 z
            refine Gx_run (es := eX0_mendCounts_42) (P := []) (M' := M36) (L' := [some (.ref c), some (.int a1), none, none, none]) (st' := [.int (1 : Int32)]) (pc' := 43) kX0_mendCounts_42 rfl trivial rfl ?_
            refine Gx_goto (off := 4) (tgt := 47) (by decide +kernel) (by decide) ?_
            refine Gx_mask [true, true, false, false, false] (L' := [some (.ref c), some (.int a1), none, none, none]) rfl ?_
            exact tX0_mendCounts_47 h_c  hk13 M36 a1 (1 : Int32) h
def wX0_mendCounts (M : xM) (c : Nat) (Q : xM → Prop) : Prop :=
    wX2_countEntries M (c + 1) (c + 11) (fun M8 => (∃ n : Nat, lX0_mendCounts_13 c Q n M8 (0 : Int32)))
set_option maxHeartbeats 4000000 in
set_option maxRecDepth 100000 in
theorem tX0_mendCounts {l : Launch} {E : xE} {M : xM} {c : Nat} {Q : xM → Prop} (h_c : xChk c) (h : wX0_mendCounts M c Q) : Ct l E mX0_mendCounts [.ref c] M (xRv Q) := by
  refine Ct_of (by decide +kernel) rfl (Nat.le_of_ble_eq_true rfl) ?_
  unfold wX0_mendCounts at h
  show Gx l E mX0_mendCounts (xRv Q) 0 M [some (.ref c), none, none, none, none] []
  refine Gx_run (es := eX0_mendCounts_0) (P := [xkd c = 0, xkd c = 0]) (M' := M) (L' := [some (.ref c), none, none, none, none]) (st' := [.ref (c + 11), .ref (c + 1)]) (pc' := 8) kX0_mendCounts_0 rfl ⟨(xChk_0 h_c), (xChk_0 h_c), trivial⟩ rfl ?_
  refine Gx_callV (As := [.ref (c + 11)]) (by decide +kernel) ml_0_151 okX2_countEntries mvX2_countEntries rfl (by decide) (Nat.le_of_ble_eq_true rfl) (xChk_1 h_c) rfl rfl (tX2_countEntries (xChk_v h_c) (xChk_11 h_c) h) (fun rr M8 qq => ?_)
  obtain ⟨rfl, h⟩ := qq
  show Gx l E mX0_mendCounts _ 11 M8 [some (.ref c), none, none, none, none] []
  refine Gx_run (es := eX0_mendCounts_11) (P := []) (M' := M8) (L' := [some (.ref c), some (.int (0 : Int32)), none, none, none]) (st' := []) (pc' := 13) kX0_mendCounts_11 rfl trivial rfl ?_
  refine Gx_mask [true, true, false, false, false] (L' := [some (.ref c), some (.int (0 : Int32)), none, none, none]) rfl ?_
  obtain ⟨n, h⟩ := h
  exact tX0_mendCounts_13 h_c  n M8 (0 : Int32) h
