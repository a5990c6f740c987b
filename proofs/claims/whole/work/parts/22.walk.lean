/-! walks: X4_block, X4_blocksOf, X4_countsLinks, X4_digit, X4_empties, X4_enters, X4_inode, X4_kind, X4_links -/
def eX4_block_0 : List xI := [(.iload_n 1, 1, 0, 0, 0)]
theorem kX4_block_0 : xcode (xmb mX4_block) (xmo mX4_block) 0 eX4_block_0 = true := by decide +kernel
def eX4_block_13 : List xI := [(.iload_n 2, 1, 0, 0, 0), (.iconst 0, 1, 0, 0, (0)), (.iconst 2, 1, 0, 0, (2))]
theorem kX4_block_13 : xcode (xmb mX4_block) (xmo mX4_block) 13 eX4_block_13 = true := by decide +kernel
def eX4_block_29 : List xI := [(.iload_n 2, 1, 0, 0, 0)]
theorem kX4_block_29 : xcode (xmb mX4_block) (xmo mX4_block) 29 eX4_block_29 = true := by decide +kernel
def eX4_block_45 : List xI := [(.iload_n 2, 1, 0, 0, 0), (.iconst 1, 1, 0, 0, (1))]
theorem kX4_block_45 : xcode (xmb mX4_block) (xmo mX4_block) 45 eX4_block_45 = true := by decide +kernel
def eX4_block_65 : List xI := [(.aload_n 0, 1, 0, 0, 0), (.iload_n 1, 1, 0, 0, 0)]
theorem kX4_block_65 : xcode (xmb mX4_block) (xmo mX4_block) 65 eX4_block_65 = true := by decide +kernel
def eX4_block_50 : List xI := [(.aload_n 0, 1, 0, 0, 0), (.getfield 7, 3, 4, 1, 0), (.sipush 144, 3, 0, 0, (144)), (.iaload, 1, 0, 0, 0), (.iload_n 1, 1, 0, 0, 0), (.ishr, 1, 0, 0, 0), (.iconst 1, 1, 0, 0, (1)), (.iand, 1, 0, 0, 0)]
theorem kX4_block_50 : xcode (xmb mX4_block) (xmo mX4_block) 50 eX4_block_50 = true := by decide +kernel
def eX4_block_33 : List xI := [(.aload_n 0, 1, 0, 0, 0), (.getfield 7, 3, 4, 1, 0), (.bipush 120, 2, 0, 0, (120)), (.iload_n 1, 1, 0, 0, 0), (.iadd, 1, 0, 0, 0), (.iaload, 1, 0, 0, 0)]
theorem kX4_block_33 : xcode (xmb mX4_block) (xmo mX4_block) 33 eX4_block_33 = true := by decide +kernel
def eX4_block_22 : List xI := [(.aload_n 0, 1, 0, 0, 0), (.bipush (-2), 2, 0, 0, (-2))]
theorem kX4_block_22 : xcode (xmb mX4_block) (xmo mX4_block) 22 eX4_block_22 = true := by decide +kernel
def eX4_block_7 : List xI := [(.aload_n 0, 1, 0, 0, 0), (.iconst (-1), 1, 0, 0, (-1))]
theorem kX4_block_7 : xcode (xmb mX4_block) (xmo mX4_block) 7 eX4_block_7 = true := by decide +kernel
def wX4_block_70 (p1 : Int32) (p2 : Int32) (Q : Int32 → xM → Prop) (M : xM) (s0 : Int32) : Prop :=
    Q s0 M
set_option maxHeartbeats 4000000 in
set_option maxRecDepth 100000 in
theorem tX4_block_70 {l : Launch} {E : xE} {p1 : Int32} {p2 : Int32} {Q : Int32 → xM → Prop} (M : xM) (s0 : Int32) (h : wX4_block_70 p1 p2 Q M s0) : Gx l E mX4_block (xRi Q) 70 M [none, none, none] [.int s0] := by
  unfold wX4_block_70 at h
  exact Gx_iret (by decide +kernel) rfl rfl ⟨_, rfl, h⟩
def wX4_block (M : xM) (p1 : Int32) (p2 : Int32) (Q : Int32 → xM → Prop) : Prop :=
    wX4_isBlock M p1 (fun r1 M1 => (((¬ r1 = 0) → (wX4_in M1 p2 (0 : Int32) (2 : Int32) (fun r16 M16 => (((¬ r16 = 0) → ((((¬ p2 = 0) → ((((¬ p2 = (1 : Int32)) → (wX4_pointersTo M16 p1 (fun r67 M67 => wX4_block_70 p1 p2 Q M67 r67))) ∧ ((p2 = (1 : Int32)) → ((vp_in (144 : Int32) 147) ∧ wX4_block_70 p1 p2 Q M16 (((M16 51 (144 : Int32).toNatClampNeg) >>> (p1 &&& 31)) &&& (1 : Int32))))))) ∧ ((p2 = 0) → ((vp_in ((120 : Int32) + p1) 147) ∧ wX4_block_70 p1 p2 Q M16 (M16 51 ((120 : Int32) + p1).toNatClampNeg)))))) ∧ ((r16 = 0) → (wX4_refused M16 (-2 : Int32) (fun r25 M25 => Q r25 M25))))))) ∧ ((r1 = 0) → (wX4_refused M1 (-1 : Int32) (fun r9 M9 => Q r9 M9)))))
set_option maxHeartbeats 4000000 in
set_option maxRecDepth 100000 in
theorem tX4_block {l : Launch} {E : xE} {M : xM} {p1 : Int32} {p2 : Int32} {Q : Int32 → xM → Prop} (h : wX4_block M p1 p2 Q) : Ct l E mX4_block [.ref 50, .int p1, .int p2] M (xRi Q) := by
  refine Ct_of (by decide +kernel) rfl (Nat.le_of_ble_eq_true rfl) ?_
  unfold wX4_block at h
  show Gx l E mX4_block (xRi Q) 0 M [some (.ref 50), some (.int p1), some (.int p2)] []
  refine Gx_run (es := eX4_block_0) (P := []) (M' := M) (L' := [some (.ref 50), some (.int p1), some (.int p2)]) (st' := [.int p1]) (pc' := 1) kX4_block_0 rfl trivial rfl ?_
  refine Gx_callS (As := [.int p1]) (by decide +kernel) ml_4_127 okX4_isBlock mvX4_isBlock rfl (by decide) (Nat.le_of_ble_eq_true rfl) (tX4_isBlock h) (fun rr M1 qq => ?_)
  obtain ⟨r1, rfl, h⟩ := qq
  show Gx l E mX4_block _ 4 M1 [some (.ref 50), some (.int p1), some (.int p2)] [.int r1]
  refine Gx_if_ne (off := 9) (tgt := 13) (by decide +kernel) (by decide) (fun z => ?_) (fun z => ?_)
  · have h := h.1 z
    refine Gx_run (es := eX4_block_13) (P := []) (M' := M1) (L' := [some (.ref 50), some (.int p1), some (.int p2)]) (st' := [.int (2 : Int32), .int (0 : Int32), .int p2]) (pc' := 16) kX4_block_13 rfl trivial rfl ?_
    refine Gx_callS (As := [.int p2, .int (0 : Int32), .int (2 : Int32)]) (by decide +kernel) ml_4_43 okX4_in mvX4_in rfl (by decide) (Nat.le_of_ble_eq_true rfl) (tX4_in h) (fun rr M16 qq => ?_)
    obtain ⟨r16, rfl, h⟩ := qq
    show Gx l E mX4_block _ 19 M16 [some (.ref 50), some (.int p1), some (.int p2)] [.int r16]
    refine Gx_if_ne (off := 10) (tgt := 29) (by decide +kernel) (by decide) (fun z => ?_) (fun z => ?_)
    · have h := h.1 z
      refine Gx_run (es := eX4_block_29) (P := []) (M' := M16) (L' := [some (.ref 50), some (.int p1), some (.int p2)]) (st' := [.int p2]) (pc' := 30) kX4_block_29 rfl trivial rfl ?_
      refine Gx_if_ne (off := 15) (tgt := 45) (by decide +kernel) (by decide) (fun z => ?_) (fun z => ?_)
      · have h := h.1 z
        refine Gx_run (es := eX4_block_45) (P := []) (M' := M16) (L' := [some (.ref 50), some (.int p1), some (.int p2)]) (st' := [.int (1 : Int32), .int p2]) (pc' := 47) kX4_block_45 rfl trivial rfl ?_
        refine Gx_icmp_ne (off := 18) (tgt := 65) (by decide +kernel) (by decide) (fun z => ?_) (fun z => ?_)
        · have h := h.1 z
          refine Gx_run (es := eX4_block_65) (P := []) (M' := M16) (L' := [some (.ref 50), some (.int p1), some (.int p2)]) (st' := [.int p1, .ref 50]) (pc' := 67) kX4_block_65 rfl trivial rfl ?_
          refine Gx_callV (As := [.int p1]) (by decide +kernel) ml_4_51 okX4_pointersTo mvX4_pointersTo rfl (by decide) (Nat.le_of_ble_eq_true rfl) rfl rfl rfl (tX4_pointersTo h) (fun rr M67 qq => ?_)
          obtain ⟨r67, rfl, h⟩ := qq
          show Gx l E mX4_block _ 70 M67 [some (.ref 50), some (.int p1), some (.int p2)] [.int r67]
          refine Gx_mask [false, false, false] (L' := [none, none, none]) rfl ?_
          exact tX4_block_70  M67 r67 h
        · have h := h.2 z
          obtain ⟨g50_0, h⟩ := h
          refine Gx_run (es := eX4_block_50) (P := [xkd 50 = 4, xkd 51 = 5, vp_in (144 : Int32) (xln 51)]) (M' := M16) (L' := [some (.ref 50), some (.int p1), some (.int p2)]) (st' := [.int (((M16 51 (144 : Int32).toNatClampNeg) >>> (p1 &&& 31)) &&& (1 : Int32))]) (pc' := 62) kX4_block_50 rfl ⟨rfl, rfl, g50_0, trivial⟩ rfl ?_
          refine Gx_goto (off := 8) (tgt := 70) (by decide +kernel) (by decide) ?_
          refine Gx_mask [false, false, false] (L' := [none, none, none]) rfl ?_
          exact tX4_block_70  M16 (((M16 51 (144 : Int32).toNatClampNeg) >>> (p1 &&& 31)) &&& (1 : Int32)) h
      · have h := h.2 z
        obtain ⟨g33_0, h⟩ := h
        refine Gx_run (es := eX4_block_33) (P := [xkd 50 = 4, xkd 51 = 5, vp_in ((120 : Int32) + p1) (xln 51)]) (M' := M16) (L' := [some (.ref 50), some (.int p1), some (.int p2)]) (st' := [.int (M16 51 ((120 : Int32) + p1).toNatClampNeg)]) (pc' := 42) kX4_block_33 rfl ⟨rfl, rfl, g33_0, trivial⟩ rfl ?_
        refine Gx_goto (off := 28) (tgt := 70) (by decide +kernel) (by decide) ?_
        refine Gx_mask [false, false, false] (L' := [none, none, none]) rfl ?_
        exact tX4_block_70  M16 (M16 51 ((120 : Int32) + p1).toNatClampNeg) h
    · have h := h.2 z
      refine Gx_run (es := eX4_block_22) (P := []) (M' := M16) (L' := [some (.ref 50), some (.int p1), some (.int p2)]) (st' := [.int (-2 : Int32), .ref 50]) (pc' := 25) kX4_block_22 rfl trivial rfl ?_
      refine Gx_callV (As := [.int (-2 : Int32)]) (by decide +kernel) ml_4_55 okX4_refused mvX4_refused rfl (by decide) (Nat.le_of_ble_eq_true rfl) rfl rfl rfl (tX4_refused h) (fun rr M25 qq => ?_)
      obtain ⟨r25, rfl, h⟩ := qq
      show Gx l E mX4_block _ 28 M25 [some (.ref 50), some (.int p1), some (.int p2)] [.int r25]
      exact Gx_iret (by decide +kernel) rfl rfl ⟨_, rfl, h⟩
  · have h := h.2 z
    refine Gx_run (es := eX4_block_7) (P := []) (M' := M1) (L' := [some (.ref 50), some (.int p1), some (.int p2)]) (st' := [.int (-1 : Int32), .ref 50]) (pc' := 9) kX4_block_7 rfl trivial rfl ?_
    refine Gx_callV (As := [.int (-1 : Int32)]) (by decide +kernel) ml_4_55 okX4_refused mvX4_refused rfl (by decide) (Nat.le_of_ble_eq_true rfl) rfl rfl rfl (tX4_refused h) (fun rr M9 qq => ?_)
    obtain ⟨r9, rfl, h⟩ := qq
    show Gx l E mX4_block _ 12 M9 [some (.ref 50), some (.int p1), some (.int p2)] [.int r9]
    exact Gx_iret (by decide +kernel) rfl rfl ⟨_, rfl, h⟩
def eX4_blocksOf_0 : List xI := [(.iconst 0, 1, 0, 0, (0)), (.istore_n 2, 1, 0, 0, 0), (.iconst 0, 1, 0, 0, (0)), (.istore_n 3, 1, 0, 0, 0)]
theorem kX4_blocksOf_0 : xcode (xmb mX4_blocksOf) (xmo mX4_blocksOf) 0 eX4_blocksOf_0 = true := by decide +kernel
def eX4_blocksOf_4 : List xI := [(.iload_n 3, 1, 0, 0, 0), (.bipush 30, 2, 0, 0, (30))]
theorem kX4_blocksOf_4 : xcode (xmb mX4_blocksOf) (xmo mX4_blocksOf) 4 eX4_blocksOf_4 = true := by decide +kernel
def eX4_blocksOf_72 : List xI := [(.iload_n 2, 1, 0, 0, 0)]
theorem kX4_blocksOf_72 : xcode (xmb mX4_blocksOf) (xmo mX4_blocksOf) 72 eX4_blocksOf_72 = true := by decide +kernel
def eX4_blocksOf_10 : List xI := [(.iload_n 1, 1, 0, 0, 0), (.iload_n 3, 1, 0, 0, 0), (.iconst 3, 1, 0, 0, (3)), (.idiv, 1, 0, 0, 0), (.ishr, 1, 0, 0, 0), (.iconst 1, 1, 0, 0, (1)), (.iand, 1, 0, 0, 0), (.iconst 1, 1, 0, 0, (1))]
theorem kX4_blocksOf_10 : xcode (xmb mX4_blocksOf) (xmo mX4_blocksOf) 10 eX4_blocksOf_10 = true := by decide +kernel
def eX4_blocksOf_40 : List xI := [(.iconst 0, 1, 0, 0, (0))]
theorem kX4_blocksOf_40 : xcode (xmb mX4_blocksOf) (xmo mX4_blocksOf) 40 eX4_blocksOf_40 = true := by decide +kernel
def eX4_blocksOf_41 : List xI := [(.istore 4, 2, 0, 0, 0), (.iload_n 2, 1, 0, 0, 0), (.iload 4, 2, 0, 0, 0)]
theorem kX4_blocksOf_41 : xcode (xmb mX4_blocksOf) (xmo mX4_blocksOf) 41 eX4_blocksOf_41 = true := by decide +kernel
def eX4_blocksOf_63 : List xI := [(.iconst 0, 1, 0, 0, (0))]
theorem kX4_blocksOf_63 : xcode (xmb mX4_blocksOf) (xmo mX4_blocksOf) 63 eX4_blocksOf_63 = true := by decide +kernel
def eX4_blocksOf_64 : List xI := [(.ior, 1, 0, 0, 0), (.istore_n 2, 1, 0, 0, 0), (.iinc 3 1, 3, 0, 0, (1))]
theorem kX4_blocksOf_64 : xcode (xmb mX4_blocksOf) (xmo mX4_blocksOf) 64 eX4_blocksOf_64 = true := by decide +kernel
def eX4_blocksOf_49 : List xI := [(.iconst 1, 1, 0, 0, (1)), (.aload_n 0, 1, 0, 0, 0), (.getfield 7, 3, 4, 1, 0), (.bipush 30, 2, 0, 0, (30)), (.iload_n 3, 1, 0, 0, 0), (.iadd, 1, 0, 0, 0), (.iaload, 1, 0, 0, 0), (.ishl, 1, 0, 0, 0)]
theorem kX4_blocksOf_49 : xcode (xmb mX4_blocksOf) (xmo mX4_blocksOf) 49 eX4_blocksOf_49 = true := by decide +kernel
def eX4_blocksOf_21 : List xI := [(.aload_n 0, 1, 0, 0, 0), (.getfield 7, 3, 4, 1, 0), (.bipush 30, 2, 0, 0, (30)), (.iload_n 3, 1, 0, 0, 0), (.iadd, 1, 0, 0, 0), (.iaload, 1, 0, 0, 0)]
theorem kX4_blocksOf_21 : xcode (xmb mX4_blocksOf) (xmo mX4_blocksOf) 21 eX4_blocksOf_21 = true := by decide +kernel
def eX4_blocksOf_36 : List xI := [(.iconst 1, 1, 0, 0, (1))]
theorem kX4_blocksOf_36 : xcode (xmb mX4_blocksOf) (xmo mX4_blocksOf) 36 eX4_blocksOf_36 = true := by decide +kernel
def wX4_blocksOf_64 (p1 : Int32) (Q : Int32 → xM → Prop) (k4 : xM → Int32 → Int32 → Prop) (M : xM) (a3 : Int32) (s0 : Int32) (s1 : Int32) : Prop :=
    k4 M (s1 ||| s0) (a3 + (1 : Int32))
set_option maxHeartbeats 4000000 in
set_option maxRecDepth 100000 in
theorem tX4_blocksOf_64 {l : Launch} {E : xE} {p1 : Int32} {Q : Int32 → xM → Prop} {k4 : xM → Int32 → Int32 → Prop} (hk4 : ∀ (M : xM) (a2 : Int32) (a3 : Int32), k4 M a2 a3 → Gx l E mX4_blocksOf (xRi Q) 4 M [some (.ref 50), some (.int p1), some (.int a2), some (.int a3), none] []) (M : xM) (a3 : Int32) (s0 : Int32) (s1 : Int32) (h : wX4_blocksOf_64 p1 Q k4 M a3 s0 s1) : Gx l E mX4_blocksOf (xRi Q) 64 M [some (.ref 50), some (.int p1), none, some (.int a3), none] [.int s0, .int s1] := by
  unfold wX4_blocksOf_64 at h
  refine Gx_run (es := eX4_blocksOf_64) (P := []) (M' := M) (L' := [some (.ref 50), some (.int p1), some (.int (s1 ||| s0)), some (.int (a3 + (1 : Int32))), none]) (st' := []) (pc' := 69) kX4_blocksOf_64 rfl trivial rfl ?_
  refine Gx_goto (off := -65) (tgt := 4) (by decide +kernel) (by decide) ?_
  refine Gx_mask [true, true, true, true, false] (L' := [some (.ref 50), some (.int p1), some (.int (s1 ||| s0)), some (.int (a3 + (1 : Int32))), none]) rfl ?_
  exact hk4 M (s1 ||| s0) (a3 + (1 : Int32)) h
def wX4_blocksOf_41 (p1 : Int32) (Q : Int32 → xM → Prop) (k4 : xM → Int32 → Int32 → Prop) (M : xM) (a2 : Int32) (a3 : Int32) (s0 : Int32) : Prop :=
    (((s0 = 0) → (wX4_blocksOf_64 p1 Q k4 M a3 (0 : Int32) a2)) ∧ ((¬ s0 = 0) → ((vp_in ((30 : Int32) + a3) 147) ∧ wX4_blocksOf_64 p1 Q k4 M a3 ((1 : Int32) <<< ((M 51 ((30 : Int32) + a3).toNatClampNeg) &&& 31)) a2)))
set_option maxHeartbeats 4000000 in
set_option maxRecDepth 100000 in
theorem tX4_blocksOf_41 {l : Launch} {E : xE} {p1 : Int32} {Q : Int32 → xM → Prop} {k4 : xM → Int32 → Int32 → Prop} (hk4 : ∀ (M : xM) (a2 : Int32) (a3 : Int32), k4 M a2 a3 → Gx l E mX4_blocksOf (xRi Q) 4 M [some (.ref 50), some (.int p1), some (.int a2), some (.int a3), none] []) (M : xM) (a2 : Int32) (a3 : Int32) (s0 : Int32) (h : wX4_blocksOf_41 p1 Q k4 M a2 a3 s0) : Gx l E mX4_blocksOf (xRi Q) 41 M [some (.ref 50), some (.int p1), some (.int a2), some (.int a3), none] [.int s0] := by
  unfold wX4_blocksOf_41 at h
  refine Gx_run (es := eX4_blocksOf_41) (P := []) (M' := M) (L' := [some (.ref 50), some (.int p1), some (.int a2), some (.int a3), some (.int s0)]) (st' := [.int s0, .int a2]) (pc' := 46) kX4_blocksOf_41 rfl trivial rfl ?_
  refine Gx_if_eq (off := 17) (tgt := 63) (by decide +kernel) (by decide) (fun z => ?_) (fun z => ?_)
  · have h := h.1 z
    refine Gx_run (es := eX4_blocksOf_63) (P := []) (M' := M) (L' := [some (.ref 50), some (.int p1), some (.int a2), some (.int a3), some (.int s0)]) (st' := [.int (0 : Int32), .int a2]) (pc' := 64) kX4_blocksOf_63 rfl trivial rfl ?_
    refine Gx_mask [true, true, false, true, false] (L' := [some (.ref 50), some (.int p1), none, some (.int a3), none]) rfl ?_
    exact tX4_blocksOf_64  hk4 M a3 (0 : Int32) a2 h
  · have h := h.2 z
    obtain ⟨g49_0, h⟩ := h
    refine Gx_run (es := eX4_blocksOf_49) (P := [xkd 50 = 4, xkd 51 = 5, vp_in ((30 : Int32) + a3) (xln 51)]) (M' := M) (L' := [some (.ref 50), some (.int p1), some (.int a2), some (.int a3), some (.int s0)]) (st' := [.int ((1 : Int32) <<< ((M 51 ((30 : Int32) + a3).toNatClampNeg) &&& 31)), .int a2]) (pc' := 60) kX4_blocksOf_49 rfl ⟨rfl, rfl, g49_0, trivial⟩ rfl ?_
    refine Gx_goto (off := 4) (tgt := 64) (by decide +kernel) (by decide) ?_
    refine Gx_mask [true, true, false, true, false] (L' := [some (.ref 50), some (.int p1), none, some (.int a3), none]) rfl ?_
    exact tX4_blocksOf_64  hk4 M a3 ((1 : Int32) <<< ((M 51 ((30 : Int32) + a3).toNatClampNeg) &&& 31)) a2 h
def wX4_blocksOf_40 (p1 : Int32) (Q : Int32 → xM → Prop) (k4 : xM → Int32 → Int32 → Prop) (M : xM) (a2 : Int32) (a3 : Int32) : Prop :=
    wX4_blocksOf_41 p1 Q k4 M a2 a3 (0 : Int32)
set_option maxHeartbeats 4000000 in
set_option maxRecDepth 100000 in
theorem tX4_blocksOf_40 {l : Launch} {E : xE} {p1 : Int32} {Q : Int32 → xM → Prop} {k4 : xM → Int32 → Int32 → Prop} (hk4 : ∀ (M : xM) (a2 : Int32) (a3 : Int32), k4 M a2 a3 → Gx l E mX4_blocksOf (xRi Q) 4 M [some (.ref 50), some (.int p1), some (.int a2), some (.int a3), none] []) (M : xM) (a2 : Int32) (a3 : Int32) (h : wX4_blocksOf_40 p1 Q k4 M a2 a3) : Gx l E mX4_blocksOf (xRi Q) 40 M [some (.ref 50), some (.int p1), some (.int a2), some (.int a3), none] [] := by
  unfold wX4_blocksOf_40 at h
  refine Gx_run (es := eX4_blocksOf_40) (P := []) (M' := M) (L' := [some (.ref 50), some (.int p1), some (.int a2), some (.int a3), none]) (st' := [.int (0 : Int32)]) (pc' := 41) kX4_blocksOf_40 rfl trivial rfl ?_
  refine Gx_mask [true, true, true, true, false] (L' := [some (.ref 50), some (.int p1), some (.int a2), some (.int a3), none]) rfl ?_
  exact tX4_blocksOf_41  hk4 M a2 a3 (0 : Int32) h
def lX4_blocksOf_4 (p1 : Int32) (Q : Int32 → xM → Prop) : Nat → xM → Int32 → Int32 → Prop
  | 0 => fun _ _ _ => False
  | n + 1 => let k4 := lX4_blocksOf_4 p1 Q n; fun M a2 a3 =>
    ((((30 : Int32) ≤ a3) → (Q a2 M)) ∧ ((¬ (30 : Int32) ≤ a3) → ((((¬ ((p1 >>> ((a3 / (3 : Int32)) &&& 31)) &&& (1 : Int32)) = (1 : Int32)) → (wX4_blocksOf_40 p1 Q k4 M a2 a3)) ∧ ((((p1 >>> ((a3 / (3 : Int32)) &&& 31)) &&& (1 : Int32)) = (1 : Int32)) → ((vp_in ((30 : Int32) + a3) 147) ∧ wX4_isBlock M (M 51 ((30 : Int32) + a3).toNatClampNeg) (fun r30 M30 => (((r30 = 0) → (wX4_blocksOf_40 p1 Q k4 M30 a2 a3)) ∧ ((¬ r30 = 0) → (wX4_blocksOf_41 p1 Q k4 M30 a2 a3 (1 : Int32)))))))))))
set_option maxHeartbeats 4000000 in
set_option maxRecDepth 100000 in
theorem tX4_blocksOf_4 {l : Launch} {E : xE} {p1 : Int32} {Q : Int32 → xM → Prop} (n : Nat) : ∀ (M : xM) (a2 : Int32) (a3 : Int32), lX4_blocksOf_4 p1 Q n M a2 a3 → Gx l E mX4_blocksOf (xRi Q) 4 M [some (.ref 50), some (.int p1), some (.int a2), some (.int a3), none] [] := by
  induction n with
  | zero => intro M a2 a3 h; exact h.elim
  | succ n hk4 =>
      intro M a2 a3 h
      unfold lX4_blocksOf_4 at h
      dsimp only at h
      refine Gx_run (es := eX4_blocksOf_4) (P := []) (M' := M) (L' := [some (.ref 50), some (.int p1), some (.int a2), some (.int a3), none]) (st' := [.int (30 : Int32), .int a3]) (pc' := 7) kX4_blocksOf_4 rfl trivial rfl ?_
      refine Gx_icmp_ge (off := 65) (tgt := 72) (by decide +kernel) (by decide) (fun z => ?_) (fun z => ?_)
      · have h := h.1 z
        refine Gx_run (es := eX4_blocksOf_72) (P := []) (M' := M) (L' := [some (.ref 50), some (.int p1), some (.int a2), some (.int a3), none]) (st' := [.int a2]) (pc' := 73) kX4_blocksOf_72 rfl trivial rfl ?_
        exact Gx_iret (by decide +kernel) rfl rfl ⟨_, rfl, h⟩
      · have h := h.2 z
        refine Gx_run (es := eX4_blocksOf_10) (P := [¬ (3 : Int32) = 0]) (M' := M) (L' := [some (.ref 50), some (.int p1), some (.int a2), some (.int a3), none]) (st' := [.int (1 : Int32), .int ((p1 >>> ((a3 / (3 : Int32)) &&& 31)) &&& (1 : Int32))]) (pc' := 18) kX4_blocksOf_10 rfl ⟨(by decide), trivial⟩ rfl ?_
        refine Gx_icmp_ne (off := 22) (tgt := 40) (by decide +kernel) (by decide) (fun z => ?_) (fun z => ?_)
        · have h := h.1 z
          refine Gx_mask [true, true, true, true, false] (L' := [some (.ref 50), some (.int p1), some (.int a2), some (.int a3), none]) rfl ?_
          exact tX4_blocksOf_40  hk4 M a2 a3 h
        · have h := h.2 z
          obtain ⟨g21_0, h⟩ := h
          refine Gx_run (es := eX4_blocksOf_21) (P := [xkd 50 = 4, xkd 51 = 5, vp_in ((30 : Int32) + a3) (xln 51)]) (M' := M) (L' := [some (.ref 50), some (.int p1), some (.int a2), some (.int a3), none]) (st' := [.int (M 51 ((30 : Int32) + a3).toNatClampNeg)]) (pc' := 30) kX4_blocksOf_21 rfl ⟨rfl, rfl, g21_0, trivial⟩ rfl ?_
          refine Gx_callS (As := [.int (M 51 ((30 : Int32) + a3).toNatClampNeg)]) (by decide +kernel) ml_4_127 okX4_isBlock mvX4_isBlock rfl (by decide) (Nat.le_of_ble_eq_true rfl) (tX4_isBlock h) (fun rr M30 qq => ?_)
          obtain ⟨r30, rfl, h⟩ := qq
          show Gx l E mX4_blocksOf _ 33 M30 [some (.ref 50), some (.int p1), some (.int a2), some (.int a3), none] [.int r30]
          refine Gx_if_eq (off := 7) (tgt := 40) (by decide +kernel) (by decide) (fun z => ?_) (fun z => ?_)
          · have h := h.1 z
            refine Gx_mask [true, true, true, true, false] (L' := [some (.ref 50), some (.int p1), some (.int a2), some (.int a3), none]) rfl ?_
            exact tX4_blocksOf_40  hk4 M30 a2 a3 h
          · have h := h.2 z
            refine Gx_run (es := eX4_blocksOf_36) (P := []) (M' := M30) (L' := [some (.ref 50), some (.int p1), some (.int a2), some (.int a3), none]) (st' := [.int (1 : Int32)]) (pc' := 37) kX4_blocksOf_36 rfl trivial rfl ?_
            refine Gx_goto (off := 4) (tgt := 41) (by decide +kernel) (by decide) ?_
            refine Gx_mask [true, true, true, true, false] (L' := [some (.ref 50), some (.int p1), some (.int a2), some (.int a3), none]) rfl ?_
            exact tX4_blocksOf_41  hk4 M30 a2 a3 (1 : Int32) h
def wX4_blocksOf (M : xM) (p1 : Int32) (Q : Int32 → xM → Prop) : Prop :=
    (∃ n : Nat, lX4_blocksOf_4 p1 Q n M (0 : Int32) (0 : Int32))
set_option maxHeartbeats 4000000 in
set_option maxRecDepth 100000 in
theorem tX4_blocksOf {l : Launch} {E : xE} {M : xM} {p1 : Int32} {Q : Int32 → xM → Prop} (h : wX4_blocksOf M p1 Q) : Ct l E mX4_blocksOf [.ref 50, .int p1] M (xRi Q) := by
  refine Ct_of (by decide +kernel) rfl (Nat.le_of_ble_eq_true rfl) ?_
  unfold wX4_blocksOf at h
  show Gx l E mX4_blocksOf (xRi Q) 0 M [some (.ref 50), some (.int p1), none, none, none] []
  refine Gx_run (es := eX4_blocksOf_0) (P := []) (M' := M) (L' := [some (.ref 50), some (.int p1), some (.int (0 : Int32)), some (.int (0 : Int32)), none]) (st' := []) (pc' := 4) kX4_blocksOf_0 rfl trivial rfl ?_
  refine Gx_mask [true, true, true, true, false] (L' := [some (.ref 50), some (.int p1), some (.int (0 : Int32)), some (.int (0 : Int32)), none]) rfl ?_
  obtain ⟨n, h⟩ := h
  exact tX4_blocksOf_4  n M (0 : Int32) (0 : Int32) h
def eX4_countsLinks_0 : List xI := [(.iconst 0, 1, 0, 0, (0)), (.istore_n 1, 1, 0, 0, 0)]
theorem kX4_countsLinks_0 : xcode (xmb mX4_countsLinks) (xmo mX4_countsLinks) 0 eX4_countsLinks_0 = true := by decide +kernel
def eX4_countsLinks_2 : List xI := [(.iload_n 1, 1, 0, 0, 0), (.bipush 10, 2, 0, 0, (10))]
theorem kX4_countsLinks_2 : xcode (xmb mX4_countsLinks) (xmo mX4_countsLinks) 2 eX4_countsLinks_2 = true := by decide +kernel
def eX4_countsLinks_8 : List xI := [(.aload_n 0, 1, 0, 0, 0), (.getfield 7, 3, 4, 1, 0), (.iconst 0, 1, 0, 0, (0)), (.iload_n 1, 1, 0, 0, 0), (.iadd, 1, 0, 0, 0), (.iaload, 1, 0, 0, 0)]
theorem kX4_countsLinks_8 : xcode (xmb mX4_countsLinks) (xmo mX4_countsLinks) 8 eX4_countsLinks_8 = true := by decide +kernel
def eX4_countsLinks_49 : List xI := [(.aload_n 0, 1, 0, 0, 0), (.iload_n 1, 1, 0, 0, 0)]
theorem kX4_countsLinks_49 : xcode (xmb mX4_countsLinks) (xmo mX4_countsLinks) 49 eX4_countsLinks_49 = true := by decide +kernel
def eX4_countsLinks_54 : List xI := [(.bipush 9, 2, 0, 0, (9))]
theorem kX4_countsLinks_54 : xcode (xmb mX4_countsLinks) (xmo mX4_countsLinks) 54 eX4_countsLinks_54 = true := by decide +kernel
def eX4_countsLinks_64 : List xI := [(.aload_n 0, 1, 0, 0, 0), (.iload_n 1, 1, 0, 0, 0)]
theorem kX4_countsLinks_64 : xcode (xmb mX4_countsLinks) (xmo mX4_countsLinks) 64 eX4_countsLinks_64 = true := by decide +kernel
def eX4_countsLinks_69 : List xI := [(.istore_n 2, 1, 0, 0, 0), (.aload_n 0, 1, 0, 0, 0), (.bipush 14, 2, 0, 0, (14))]
theorem kX4_countsLinks_69 : xcode (xmb mX4_countsLinks) (xmo mX4_countsLinks) 69 eX4_countsLinks_69 = true := by decide +kernel
def eX4_countsLinks_108 : List xI := [(.iinc 1 1, 3, 0, 0, (1))]
theorem kX4_countsLinks_108 : xcode (xmb mX4_countsLinks) (xmo mX4_countsLinks) 108 eX4_countsLinks_108 = true := by decide +kernel
def eX4_countsLinks_79 : List xI := [(.aload_n 0, 1, 0, 0, 0), (.getfield 7, 3, 4, 1, 0), (.bipush 10, 2, 0, 0, (10)), (.iload_n 1, 1, 0, 0, 0), (.iadd, 1, 0, 0, 0), (.iaload, 1, 0, 0, 0), (.iload_n 2, 1, 0, 0, 0)]
theorem kX4_countsLinks_79 : xcode (xmb mX4_countsLinks) (xmo mX4_countsLinks) 79 eX4_countsLinks_79 = true := by decide +kernel
def eX4_countsLinks_92 : List xI := [(.aload_n 0, 1, 0, 0, 0), (.bipush 14, 2, 0, 0, (14)), (.iload_n 1, 1, 0, 0, 0), (.aload_n 0, 1, 0, 0, 0), (.bipush 10, 2, 0, 0, (10)), (.iload_n 1, 1, 0, 0, 0), (.iadd, 1, 0, 0, 0), (.iload_n 2, 1, 0, 0, 0)]
theorem kX4_countsLinks_92 : xcode (xmb mX4_countsLinks) (xmo mX4_countsLinks) 92 eX4_countsLinks_92 = true := by decide +kernel
def eX4_countsLinks_59 : List xI := [(.bipush 9, 2, 0, 0, (9))]
theorem kX4_countsLinks_59 : xcode (xmb mX4_countsLinks) (xmo mX4_countsLinks) 59 eX4_countsLinks_59 = true := by decide +kernel
def eX4_countsLinks_19 : List xI := [(.aload_n 0, 1, 0, 0, 0), (.iload_n 1, 1, 0, 0, 0)]
theorem kX4_countsLinks_19 : xcode (xmb mX4_countsLinks) (xmo mX4_countsLinks) 19 eX4_countsLinks_19 = true := by decide +kernel
def eX4_countsLinks_27 : List xI := [(.aload_n 0, 1, 0, 0, 0), (.iload_n 1, 1, 0, 0, 0)]
theorem kX4_countsLinks_27 : xcode (xmb mX4_countsLinks) (xmo mX4_countsLinks) 27 eX4_countsLinks_27 = true := by decide +kernel
def eX4_countsLinks_35 : List xI := [(.aload_n 0, 1, 0, 0, 0), (.iload_n 1, 1, 0, 0, 0)]
theorem kX4_countsLinks_35 : xcode (xmb mX4_countsLinks) (xmo mX4_countsLinks) 35 eX4_countsLinks_35 = true := by decide +kernel
def eX4_countsLinks_40 : List xI := [(.istore_n 2, 1, 0, 0, 0), (.aload_n 0, 1, 0, 0, 0), (.bipush 13, 2, 0, 0, (13)), (.iload_n 1, 1, 0, 0, 0), (.iload_n 2, 1, 0, 0, 0)]
theorem kX4_countsLinks_40 : xcode (xmb mX4_countsLinks) (xmo mX4_countsLinks) 40 eX4_countsLinks_40 = true := by decide +kernel
def wX4_countsLinks_108 (Q : xM → Prop) (k2 : xM → Int32 → Prop) (M : xM) (a1 : Int32) : Prop :=
    k2 M (a1 + (1 : Int32))
set_option maxHeartbeats 4000000 in
set_option maxRecDepth 100000 in
theorem tX4_countsLinks_108 {l : Launch} {E : xE} {Q : xM → Prop} {k2 : xM → Int32 → Prop} (hk2 : ∀ (M : xM) (a1 : Int32), k2 M a1 → Gx l E mX4_countsLinks (xRv Q) 2 M [some (.ref 50), some (.int a1), none] []) (M : xM) (a1 : Int32) (h : wX4_countsLinks_108  Q k2 M a1) : Gx l E mX4_countsLinks (xRv Q) 108 M [some (.ref 50), some (.int a1), none] [] := by
  unfold wX4_countsLinks_108 at h
  refine Gx_run (es := eX4_countsLinks_108) (P := []) (M' := M) (L' := [some (.ref 50), some (.int (a1 + (1 : Int32))), none]) (st' := []) (pc' := 111) kX4_countsLinks_108 rfl trivial rfl ?_
  refine Gx_goto (off := -109) (tgt := 2) (by decide +kernel) (by decide) ?_
  refine Gx_mask [true, true, false] (L' := [some (.ref 50), some (.int (a1 + (1 : Int32))), none]) rfl ?_
  exact hk2 M (a1 + (1 : Int32)) h
def wX4_countsLinks_69 (Q : xM → Prop) (k2 : xM → Int32 → Prop) (M : xM) (a1 : Int32) (s0 : Int32) : Prop :=
    wX4_isRefused M (14 : Int32) (fun r73 M73 => (((¬ r73 = 0) → (wX4_countsLinks_108  Q k2 M73 a1)) ∧ ((r73 = 0) → ((vp_in ((10 : Int32) + a1) 147) ∧ ((((M73 51 ((10 : Int32) + a1).toNatClampNeg) = s0) → (wX4_countsLinks_108  Q k2 M73 a1)) ∧ ((¬ (M73 51 ((10 : Int32) + a1).toNatClampNeg) = s0) → (wX4_becomes M73 ((10 : Int32) + a1) s0 (fun r102 M102 => wX4_asks M102 (14 : Int32) a1 r102 (fun M105 => wX4_countsLinks_108  Q k2 M105 a1)))))))))
set_option maxHeartbeats 4000000 in
set_option maxRecDepth 100000 in
theorem tX4_countsLinks_69 {l : Launch} {E : xE} {Q : xM → Prop} {k2 : xM → Int32 → Prop} (hk2 : ∀ (M : xM) (a1 : Int32), k2 M a1 → Gx l E mX4_countsLinks (xRv Q) 2 M [some (.ref 50), some (.int a1), none] []) (M : xM) (a1 : Int32) (s0 : Int32) (h : wX4_countsLinks_69  Q k2 M a1 s0) : Gx l E mX4_countsLinks (xRv Q) 69 M [some (.ref 50), some (.int a1), none] [.int s0] := by
  unfold wX4_countsLinks_69 at h
  refine Gx_run (es := eX4_countsLinks_69) (P := []) (M' := M) (L' := [some (.ref 50), some (.int a1), some (.int s0)]) (st' := [.int (14 : Int32), .ref 50]) (pc' := 73) kX4_countsLinks_69 rfl trivial rfl ?_
  refine Gx_callV (As := [.int (14 : Int32)]) (by decide +kernel) ml_4_140 okX4_isRefused mvX4_isRefused rfl (by decide) (Nat.le_of_ble_eq_true rfl) rfl rfl rfl (tX4_isRefused h) (fun rr M73 qq => ?_)
  obtain ⟨r73, rfl, h⟩ := qq
  show Gx l E mX4_countsLinks _ 76 M73 [some (.ref 50), some (.int a1), some (.int s0)] [.int r73]
  refine Gx_if_ne (off := 32) (tgt := 108) (by decide +kernel) (by decide) (fun z => ?_) (fun z => ?_)
  · have h := h.1 z
    refine Gx_mask [true, true, false] (L' := [some (.ref 50), some (.int a1), none]) rfl ?_
    exact tX4_countsLinks_108  hk2 M73 a1 h
  · have h := h.2 z
    obtain ⟨g79_0, h⟩ := h
    refine Gx_run (es := eX4_countsLinks_79) (P := [xkd 50 = 4, xkd 51 = 5, vp_in ((10 : Int32) + a1) (xln 51)]) (M' := M73) (L' := [some (.ref 50), some (.int a1), some (.int s0)]) (st' := [.int s0, .int (M73 51 ((10 : Int32) + a1).toNatClampNeg)]) (pc' := 89) kX4_countsLinks_79 rfl ⟨rfl, rfl, g79_0, trivial⟩ rfl ?_
    refine Gx_icmp_eq (off := 19) (tgt := 108) (by decide +kernel) (by decide) (fun z => ?_) (fun z => ?_)
    · have h := h.1 z
      refine Gx_mask [true, true, false] (L' := [some (.ref 50), some (.int a1), none]) rfl ?_
      exact tX4_countsLinks_108  hk2 M73 a1 h
    · have h := h.2 z
      refine Gx_run (es := eX4_countsLinks_92) (P := []) (M' := M73) (L' := [some (.ref 50), some (.int a1), some (.int s0)]) (st' := [.int s0, .int ((10 : Int32) + a1), .ref 50, .int a1, .int (14 : Int32), .ref 50]) (pc' := 102) kX4_countsLinks_92 rfl trivial rfl ?_
      refine Gx_callV (As := [.int ((10 : Int32) + a1), .int s0]) (by decide +kernel) ml_4_130 okX4_becomes mvX4_becomes rfl (by decide) (Nat.le_of_ble_eq_true rfl) rfl rfl rfl (tX4_becomes h) (fun rr M102 qq => ?_)
      obtain ⟨r102, rfl, h⟩ := qq
      show Gx l E mX4_countsLinks _ 105 M102 [some (.ref 50), some (.int a1), some (.int s0)] [.int r102, .int a1, .int (14 : Int32), .ref 50]
      refine Gx_callV (As := [.int (14 : Int32), .int a1, .int r102]) (by decide +kernel) ml_4_136 okX4_asks mvX4_asks rfl (by decide) (Nat.le_of_ble_eq_true rfl) rfl rfl rfl (tX4_asks h) (fun rr M105 qq => ?_)
      obtain ⟨rfl, h⟩ := qq
      show Gx l E mX4_countsLinks _ 108 M105 [some (.ref 50), some (.int a1), some (.int s0)] []
      refine Gx_mask [true, true, false] (L' := [some (.ref 50), some (.int a1), none]) rfl ?_
      exact tX4_countsLinks_108  hk2 M105 a1 h
def wX4_countsLinks_49 (Q : xM → Prop) (k2 : xM → Int32 → Prop) (M : xM) (a1 : Int32) : Prop :=
    wX4_entriesTo M a1 (fun r51 M51 => (((r51 ≤ (9 : Int32)) → (wX4_entriesTo M51 a1 (fun r66 M66 => wX4_countsLinks_69  Q k2 M66 a1 r66))) ∧ ((¬ r51 ≤ (9 : Int32)) → (wX4_countsLinks_69  Q k2 M51 a1 (9 : Int32)))))
set_option maxHeartbeats 4000000 in
set_option maxRecDepth 100000 in
theorem tX4_countsLinks_49 {l : Launch} {E : xE} {Q : xM → Prop} {k2 : xM → Int32 → Prop} (hk2 : ∀ (M : xM) (a1 : Int32), k2 M a1 → Gx l E mX4_countsLinks (xRv Q) 2 M [some (.ref 50), some (.int a1), none] []) (M : xM) (a1 : Int32) (h : wX4_countsLinks_49  Q k2 M a1) : Gx l E mX4_countsLinks (xRv Q) 49 M [some (.ref 50), some (.int a1), none] [] := by
  unfold wX4_countsLinks_49 at h
  refine Gx_run (es := eX4_countsLinks_49) (P := []) (M' := M) (L' := [some (.ref 50), some (.int a1), none]) (st' := [.int a1, .ref 50]) (pc' := 51) kX4_countsLinks_49 rfl trivial rfl ?_
  refine Gx_callV (As := [.int a1]) (by decide +kernel) ml_4_169 okX4_entriesTo mvX4_entriesTo rfl (by decide) (Nat.le_of_ble_eq_true rfl) rfl rfl rfl (tX4_entriesTo h) (fun rr M51 qq => ?_)
  obtain ⟨r51, rfl, h⟩ := qq
  show Gx l E mX4_countsLinks _ 54 M51 [some (.ref 50), some (.int a1), none] [.int r51]
  refine Gx_run (es := eX4_countsLinks_54) (P := []) (M' := M51) (L' := [some (.ref 50), some (.int a1), none]) (st' := [.int (9 : Int32), .int r51]) (pc' := 56) kX4_countsLinks_54 rfl trivial rfl ?_
  refine Gx_icmp_le (off := 8) (tgt := 64) (by decide +kernel) (by decide) (fun z => ?_) (fun z => ?_)
  · have h := h.1 z
    refine Gx_run (es := eX4_countsLinks_64) (P := []) (M' := M51) (L' := [some (.ref 50), some (.int a1), none]) (st' := [.int a1, .ref 50]) (pc' := 66) kX4_countsLinks_64 rfl trivial rfl ?_
    refine Gx_callV (As := [.int a1]) (by decide +kernel) ml_4_169 okX4_entriesTo mvX4_entriesTo rfl (by decide) (Nat.le_of_ble_eq_true rfl) rfl rfl rfl (tX4_entriesTo h) (fun rr M66 qq => ?_)
    obtain ⟨r66, rfl, h⟩ := qq
    show Gx l E mX4_countsLinks _ 69 M66 [some (.ref 50), some (.int a1), none] [.int r66]
    refine Gx_mask [true, true, false] (L' := [some (.ref 50), some (.int a1), none]) rfl ?_
    exact tX4_countsLinks_69  hk2 M66 a1 r66 h
  · have h := h.2 z
    refine Gx_run (es := eX4_countsLinks_59) (P := []) (M' := M51) (L' := [some (.ref 50), some (.int a1), none]) (st' := [.int (9 : Int32)]) (pc' := 61) kX4_countsLinks_59 rfl trivial rfl ?_
    refine Gx_goto (off := 8) (tgt := 69) (by decide +kernel) (by decide) ?_
    refine Gx_mask [true, true, false] (L' := [some (.ref 50), some (.int a1), none]) rfl ?_
    exact tX4_countsLinks_69  hk2 M51 a1 (9 : Int32) h
def lX4_countsLinks_2 (Q : xM → Prop) : Nat → xM → Int32 → Prop
  | 0 => fun _ _ => False
  | n + 1 => let k2 := lX4_countsLinks_2  Q n; fun M a1 =>
    ((((10 : Int32) ≤ a1) → (Q M)) ∧ ((¬ (10 : Int32) ≤ a1) → ((vp_in ((0 : Int32) + a1) 147) ∧ ((((M 51 ((0 : Int32) + a1).toNatClampNeg) = 0) → (wX4_countsLinks_49  Q k2 M a1)) ∧ ((¬ (M 51 ((0 : Int32) + a1).toNatClampNeg) = 0) → (wX4_isDirectory M a1 (fun r21 M21 => (((¬ r21 = 0) → (wX4_countsLinks_49  Q k2 M21 a1)) ∧ ((r21 = 0) → (wX4_entriesTo M21 a1 (fun r29 M29 => (((¬ r29 = 0) → (wX4_countsLinks_49  Q k2 M29 a1)) ∧ ((r29 = 0) → (wX4_attaches M29 a1 (fun r37 M37 => wX4_asks M37 (13 : Int32) a1 r37 (fun M46 => wX4_countsLinks_49  Q k2 M46 a1))))))))))))))))
set_option maxHeartbeats 4000000 in
set_option maxRecDepth 100000 in
theorem tX4_countsLinks_2 {l : Launch} {E : xE} {Q : xM → Prop} (n : Nat) : ∀ (M : xM) (a1 : Int32), lX4_countsLinks_2  Q n M a1 → Gx l E mX4_countsLinks (xRv Q) 2 M [some (.ref 50), some (.int a1), none] [] := by
  induction n with
  | zero => intro M a1 h; exact h.elim
  | succ n hk2 =>
      intro M a1 h
      unfold lX4_countsLinks_2 at h
      dsimp only at h
      refine Gx_run (es := eX4_countsLinks_2) (P := []) (M' := M) (L' := [some (.ref 50), some (.int a1), none]) (st' := [.int (10 : Int32), .int a1]) (pc' := 5) kX4_countsLinks_2 rfl trivial rfl ?_
      refine Gx_icmp_ge (off := 109) (tgt := 114) (by decide +kernel) (by decide) (fun z => ?_) (fun z => ?_)
      · have h := h.1 z
        exact Gx_vret (by decide +kernel) rfl ⟨rfl, h⟩
      · have h := h.2 z
        obtain ⟨g8_0, h⟩ := h
        refine Gx_run (es := eX4_countsLinks_8) (P := [xkd 50 = 4, xkd 51 = 5, vp_in ((0 : Int32) + a1) (xln 51)]) (M' := M) (L' := [some (.ref 50), some (.int a1), none]) (st' := [.int (M 51 ((0 : Int32) + a1).toNatClampNeg)]) (pc' := 16) kX4_countsLinks_8 rfl ⟨rfl, rfl, g8_0, trivial⟩ rfl ?_
        refine Gx_if_eq (off := 33) (tgt := 49) (by decide +kernel) (by decide) (fun z => ?_) (fun z => ?_)
        · have h := h.1 z
          refine Gx_mask [true, true, false] (L' := [some (.ref 50), some (.int a1), none]) rfl ?_
          exact tX4_countsLinks_49  hk2 M a1 h
        · have h := h.2 z
          refine Gx_run (es := eX4_countsLinks_19) (P := []) (M' := M) (L' := [some (.ref 50), some (.int a1), none]) (st' := [.int a1, .ref 50]) (pc' := 21) kX4_countsLinks_19 rfl trivial rfl ?_
          refine Gx_callV (As := [.int a1]) (by decide +kernel) ml_4_152 okX4_isDirectory mvX4_isDirectory rfl (by decide) (Nat.le_of_ble_eq_true rfl) rfl rfl rfl (tX4_isDirectory h) (fun rr M21 qq => ?_)
          obtain ⟨r21, rfl, h⟩ := qq
          show Gx l E mX4_countsLinks _ 24 M21 [some (.ref 50), some (.int a1), none] [.int r21]
          refine Gx_if_ne (off := 25) (tgt := 49) (by decide +kernel) (by decide) (fun z => ?_) (fun z => ?_)
          · have h := h.1 z
            refine Gx_mask [true, true, false] (L' := [some (.ref 50), some (.int a1), none]) rfl ?_
            exact tX4_countsLinks_49  hk2 M21 a1 h
          · have h := h.2 z
            refine Gx_run (es := eX4_countsLinks_27) (P := []) (M' := M21) (L' := [some (.ref 50), some (.int a1), none]) (st' := [.int a1, .ref 50]) (pc' := 29) kX4_countsLinks_27 rfl trivial rfl ?_
            refine Gx_callV (As := [.int a1]) (by decide +kernel) ml_4_169 okX4_entriesTo mvX4_entriesTo rfl (by decide) (Nat.le_of_ble_eq_true rfl) rfl rfl rfl (tX4_entriesTo h) (fun rr M29 qq => ?_)
            obtain ⟨r29, rfl, h⟩ := qq
            show Gx l E mX4_countsLinks _ 32 M29 [some (.ref 50), some (.int a1), none] [.int r29]
            refine Gx_if_ne (off := 17) (tgt := 49) (by decide +kernel) (by decide) (fun z => ?_) (fun z => ?_)
            · have h := h.1 z
              refine Gx_mask [true, true, false] (L' := [some (.ref 50), some (.int a1), none]) rfl ?_
              exact tX4_countsLinks_49  hk2 M29 a1 h
            · have h := h.2 z
              refine Gx_run (es := eX4_countsLinks_35) (P := []) (M' := M29) (L' := [some (.ref 50), some (.int a1), none]) (st' := [.int a1, .ref 50]) (pc' := 37) kX4_countsLinks_35 rfl trivial rfl ?_
              refine Gx_callV (As := [.int a1]) (by decide +kernel) ml_4_178 okX4_attaches mvX4_attaches rfl (by decide) (Nat.le_of_ble_eq_true rfl) rfl rfl rfl (tX4_attaches h) (fun rr M37 qq => ?_)
              obtain ⟨r37, rfl, h⟩ := qq
              show Gx l E mX4_countsLinks _ 40 M37 [some (.ref 50), some (.int a1), none] [.int r37]
              refine Gx_run (es := eX4_countsLinks_40) (P := []) (M' := M37) (L' := [some (.ref 50), some (.int a1), some (.int r37)]) (st' := [.int r37, .int a1, .int (13 : Int32), .ref 50]) (pc' := 46) kX4_countsLinks_40 rfl trivial rfl ?_
              refine Gx_callV (As := [.int (13 : Int32), .int a1, .int r37]) (by decide +kernel) ml_4_136 okX4_asks mvX4_asks rfl (by decide) (Nat.le_of_ble_eq_true rfl) rfl rfl rfl (tX4_asks h) (fun rr M46 qq => ?_)
              obtain ⟨rfl, h⟩ := qq
              show Gx l E mX4_countsLinks _ 49 M46 [some (.ref 50), some (.int a1), some (.int r37)] []
              refine Gx_mask [true, true, false] (L' := [some (.ref 50), some (.int a1), none]) rfl ?_
              exact tX4_countsLinks_49  hk2 M46 a1 h
def wX4_countsLinks (M : xM) (Q : xM → Prop) : Prop :=
    (∃ n : Nat, lX4_countsLinks_2  Q n M (0 : Int32))
set_option maxHeartbeats 4000000 in
set_option maxRecDepth 100000 in
theorem tX4_countsLinks {l : Launch} {E : xE} {M : xM} {Q : xM → Prop} (h : wX4_countsLinks M  Q) : Ct l E mX4_countsLinks [.ref 50] M (xRv Q) := by
  refine Ct_of (by decide +kernel) rfl (Nat.le_of_ble_eq_true rfl) ?_
  unfold wX4_countsLinks at h
  show Gx l E mX4_countsLinks (xRv Q) 0 M [some (.ref 50), none, none] []
  refine Gx_run (es := eX4_countsLinks_0) (P := []) (M' := M) (L' := [some (.ref 50), some (.int (0 : Int32)), none]) (st' := []) (pc' := 2) kX4_countsLinks_0 rfl trivial rfl ?_
  refine Gx_mask [true, true, false] (L' := [some (.ref 50), some (.int (0 : Int32)), none]) rfl ?_
  obtain ⟨n, h⟩ := h
  exact tX4_countsLinks_2  n M (0 : Int32) h
def eX4_digit_0 : List xI := [(.aload_n 0, 1, 0, 0, 0), (.bipush 48, 2, 0, 0, (48)), (.bipush 57, 2, 0, 0, (57))]
theorem kX4_digit_0 : xcode (xmb mX4_digit) (xmo mX4_digit) 0 eX4_digit_0 = true := by decide +kernel
def wX4_digit (M : xM) (Q : Int32 → xM → Prop) : Prop :=
    wX4_one M (48 : Int32) (57 : Int32) (fun r5 M5 => Q r5 M5)
set_option maxHeartbeats 4000000 in
set_option maxRecDepth 100000 in
theorem tX4_digit {l : Launch} {E : xE} {M : xM} {Q : Int32 → xM → Prop} (h : wX4_digit M  Q) : Ct l E mX4_digit [.ref 50] M (xRi Q) := by
  refine Ct_of (by decide +kernel) rfl (Nat.le_of_ble_eq_true rfl) ?_
  unfold wX4_digit at h
  show Gx l E mX4_digit (xRi Q) 0 M [some (.ref 50)] []
  refine Gx_run (es := eX4_digit_0) (P := []) (M' := M) (L' := [some (.ref 50)]) (st' := [.int (57 : Int32), .int (48 : Int32), .ref 50]) (pc' := 5) kX4_digit_0 rfl trivial rfl ?_
  refine Gx_callV (As := [.int (48 : Int32), .int (57 : Int32)]) (by decide +kernel) ml_4_72 okX4_one mvX4_one rfl (by decide) (Nat.le_of_ble_eq_true rfl) rfl rfl rfl (tX4_one h) (fun rr M5 qq => ?_)
  obtain ⟨r5, rfl, h⟩ := qq
  show Gx l E mX4_digit _ 8 M5 [some (.ref 50)] [.int r5]
  exact Gx_iret (by decide +kernel) rfl rfl ⟨_, rfl, h⟩
def eX4_empties_0 : List xI := [(.iload_n 1, 1, 0, 0, 0)]
theorem kX4_empties_0 : xcode (xmb mX4_empties) (xmo mX4_empties) 0 eX4_empties_0 = true := by decide +kernel
def eX4_empties_16 : List xI := [(.aload_n 0, 1, 0, 0, 0), (.iconst (-1), 1, 0, 0, (-1))]
theorem kX4_empties_16 : xcode (xmb mX4_empties) (xmo mX4_empties) 16 eX4_empties_16 = true := by decide +kernel
def eX4_empties_7 : List xI := [(.iload_n 2, 1, 0, 0, 0), (.iconst 0, 1, 0, 0, (0)), (.iconst 5, 1, 0, 0, (5))]
theorem kX4_empties_7 : xcode (xmb mX4_empties) (xmo mX4_empties) 7 eX4_empties_7 = true := by decide +kernel
def eX4_empties_22 : List xI := [(.aload_n 0, 1, 0, 0, 0), (.bipush 60, 2, 0, 0, (60)), (.bipush 6, 2, 0, 0, (6)), (.iload_n 1, 1, 0, 0, 0), (.imul, 1, 0, 0, 0), (.iadd, 1, 0, 0, 0), (.iload_n 2, 1, 0, 0, 0), (.iadd, 1, 0, 0, 0), (.iconst (-1), 1, 0, 0, (-1))]
theorem kX4_empties_22 : xcode (xmb mX4_empties) (xmo mX4_empties) 22 eX4_empties_22 = true := by decide +kernel
def eX4_empties_36 : List xI := [(.iconst (-1), 1, 0, 0, (-1))]
theorem kX4_empties_36 : xcode (xmb mX4_empties) (xmo mX4_empties) 36 eX4_empties_36 = true := by decide +kernel
def eX4_empties_44 : List xI := [(.iconst 1, 1, 0, 0, (1))]
theorem kX4_empties_44 : xcode (xmb mX4_empties) (xmo mX4_empties) 44 eX4_empties_44 = true := by decide +kernel
def eX4_empties_40 : List xI := [(.iconst 0, 1, 0, 0, (0))]
theorem kX4_empties_40 : xcode (xmb mX4_empties) (xmo mX4_empties) 40 eX4_empties_40 = true := by decide +kernel
def wX4_empties_16 (p1 : Int32) (p2 : Int32) (Q : Int32 → xM → Prop) (M : xM) : Prop :=
    wX4_refused M (-1 : Int32) (fun r18 M18 => Q r18 M18)
set_option maxHeartbeats 4000000 in
set_option maxRecDepth 100000 in
theorem tX4_empties_16 {l : Launch} {E : xE} {p1 : Int32} {p2 : Int32} {Q : Int32 → xM → Prop} (M : xM) (h : wX4_empties_16 p1 p2 Q M ) : Gx l E mX4_empties (xRi Q) 16 M [some (.ref 50), none, none] [] := by
  unfold wX4_empties_16 at h
  refine Gx_run (es := eX4_empties_16) (P := []) (M' := M) (L' := [some (.ref 50), none, none]) (st' := [.int (-1 : Int32), .ref 50]) (pc' := 18) kX4_empties_16 rfl trivial rfl ?_
  refine Gx_callV (As := [.int (-1 : Int32)]) (by decide +kernel) ml_4_55 okX4_refused mvX4_refused rfl (by decide) (Nat.le_of_ble_eq_true rfl) rfl rfl rfl (tX4_refused h) (fun rr M18 qq => ?_)
  obtain ⟨r18, rfl, h⟩ := qq
  show Gx l E mX4_empties _ 21 M18 [some (.ref 50), none, none] [.int r18]
  exact Gx_iret (by decide +kernel) rfl rfl ⟨_, rfl, h⟩
def wX4_empties_45 (p1 : Int32) (p2 : Int32) (Q : Int32 → xM → Prop) (M : xM) (s0 : Int32) : Prop :=
    Q s0 M
set_option maxHeartbeats 4000000 in
set_option maxRecDepth 100000 in
theorem tX4_empties_45 {l : Launch} {E : xE} {p1 : Int32} {p2 : Int32} {Q : Int32 → xM → Prop} (M : xM) (s0 : Int32) (h : wX4_empties_45 p1 p2 Q M s0) : Gx l E mX4_empties (xRi Q) 45 M [none, none, none] [.int s0] := by
  unfold wX4_empties_45 at h
  exact Gx_iret (by decide +kernel) rfl rfl ⟨_, rfl, h⟩
def wX4_empties (M : xM) (p1 : Int32) (p2 : Int32) (Q : Int32 → xM → Prop) : Prop :=
    wX4_isInode M p1 (fun r1 M1 => (((r1 = 0) → (wX4_empties_16 p1 p2 Q M1)) ∧ ((¬ r1 = 0) → (wX4_in M1 p2 (0 : Int32) (5 : Int32) (fun r10 M10 => (((¬ r10 = 0) → (wX4_becomes M10 (((60 : Int32) + ((6 : Int32) * p1)) + p2) (-1 : Int32) (fun r33 M33 => (((¬ r33 = (-1 : Int32)) → (wX4_empties_45 p1 p2 Q M33 (1 : Int32))) ∧ ((r33 = (-1 : Int32)) → (wX4_empties_45 p1 p2 Q M33 (0 : Int32))))))) ∧ ((r10 = 0) → (wX4_empties_16 p1 p2 Q M10))))))))
set_option maxHeartbeats 4000000 in
set_option maxRecDepth 100000 in
theorem tX4_empties {l : Launch} {E : xE} {M : xM} {p1 : Int32} {p2 : Int32} {Q : Int32 → xM → Prop} (h : wX4_empties M p1 p2 Q) : Ct l E mX4_empties [.ref 50, .int p1, .int p2] M (xRi Q) := by
  refine Ct_of (by decide +kernel) rfl (Nat.le_of_ble_eq_true rfl) ?_
  unfold wX4_empties at h
  show Gx l E mX4_empties (xRi Q) 0 M [some (.ref 50), some (.int p1), some (.int p2)] []
  refine Gx_run (es := eX4_empties_0) (P := []) (M' := M) (L' := [some (.ref 50), some (.int p1), some (.int p2)]) (st' := [.int p1]) (pc' := 1) kX4_empties_0 rfl trivial rfl ?_
  refine Gx_callS (As := [.int p1]) (by decide +kernel) ml_4_111 okX4_isInode mvX4_isInode rfl (by decide) (Nat.le_of_ble_eq_true rfl) (tX4_isInode h) (fun rr M1 qq => ?_)
  obtain ⟨r1, rfl, h⟩ := qq
  show Gx l E mX4_empties _ 4 M1 [some (.ref 50), some (.int p1), some (.int p2)] [.int r1]
  refine Gx_if_eq (off := 12) (tgt := 16) (by decide +kernel) (by decide) (fun z => ?_) (fun z => ?_)
  · have h := h.1 z
    refine Gx_mask [true, false, false] (L' := [some (.ref 50), none, none]) rfl ?_
    exact tX4_empties_16  M1 h
  · have h := h.2 z
    refine Gx_run (es := eX4_empties_7) (P := []) (M' := M1) (L' := [some (.ref 50), some (.int p1), some (.int p2)]) (st' := [.int (5 : Int32), .int (0 : Int32), .int p2]) (pc' := 10) kX4_empties_7 rfl trivial rfl ?_
    refine Gx_callS (As := [.int p2, .int (0 : Int32), .int (5 : Int32)]) (by decide +kernel) ml_4_43 okX4_in mvX4_in rfl (by decide) (Nat.le_of_ble_eq_true rfl) (tX4_in h) (fun rr M10 qq => ?_)
    obtain ⟨r10, rfl, h⟩ := qq
    show Gx l E mX4_empties _ 13 M10 [some (.ref 50), some (.int p1), some (.int p2)] [.int r10]
    refine Gx_if_ne (off := 9) (tgt := 22) (by decide +kernel) (by decide) (fun z => ?_) (fun z => ?_)
    · have h := h.1 z
      refine Gx_run (es := eX4_empties_22) (P := []) (M' := M10) (L' := [some (.ref 50), some (.int p1), some (.int p2)]) (st' := [.int (-1 : Int32), .int (((60 : Int32) + ((6 : Int32) * p1)) + p2), .ref 50]) (pc' := 33) kX4_empties_22 rfl trivial rfl ?_
      refine Gx_callV (As := [.int (((60 : Int32) + ((6 : Int32) * p1)) + p2), .int (-1 : Int32)]) (by decide +kernel) ml_4_130 okX4_becomes mvX4_becomes rfl (by decide) (Nat.le_of_ble_eq_true rfl) rfl rfl rfl (tX4_becomes h) (fun rr M33 qq => ?_)
      obtain ⟨r33, rfl, h⟩ := qq
      show Gx l E mX4_empties _ 36 M33 [some (.ref 50), some (.int p1), some (.int p2)] [.int r33]
      refine Gx_run (es := eX4_empties_36) (P := []) (M' := M33) (L' := [some (.ref 50), some (.int p1), some (.int p2)]) (st' := [.int (-1 : Int32), .int r33]) (pc' := 37) kX4_empties_36 rfl trivial rfl ?_
      refine Gx_icmp_ne (off := 7) (tgt := 44) (by decide +kernel) (by decide) (fun z => ?_) (fun z => ?_)
      · have h := h.1 z
        refine Gx_run (es := eX4_empties_44) (P := []) (M' := M33) (L' := [some (.ref 50), some (.int p1), some (.int p2)]) (st' := [.int (1 : Int32)]) (pc' := 45) kX4_empties_44 rfl trivial rfl ?_
        refine Gx_mask [false, false, false] (L' := [none, none, none]) rfl ?_
        exact tX4_empties_45  M33 (1 : Int32) h
      · have h := h.2 z
        refine Gx_run (es := eX4_empties_40) (P := []) (M' := M33) (L' := [some (.ref 50), some (.int p1), some (.int p2)]) (st' := [.int (0 : Int32)]) (pc' := 41) kX4_empties_40 rfl trivial rfl ?_
        refine Gx_goto (off := 4) (tgt := 45) (by decide +kernel) (by decide) ?_
        refine Gx_mask [false, false, false] (L' := [none, none, none]) rfl ?_
        exact tX4_empties_45  M33 (0 : Int32) h
    · have h := h.2 z
      refine Gx_mask [true, false, false] (L' := [some (.ref 50), none, none]) rfl ?_
      exact tX4_empties_16  M10 h
def eX4_enters_0 : List xI := [(.iload_n 1, 1, 0, 0, 0)]
theorem kX4_enters_0 : xcode (xmb mX4_enters) (xmo mX4_enters) 0 eX4_enters_0 = true := by decide +kernel
def eX4_enters_24 : List xI := [(.aload_n 0, 1, 0, 0, 0), (.iconst (-1), 1, 0, 0, (-1))]
theorem kX4_enters_24 : xcode (xmb mX4_enters) (xmo mX4_enters) 24 eX4_enters_24 = true := by decide +kernel
def eX4_enters_7 : List xI := [(.iload_n 2, 1, 0, 0, 0), (.iconst 0, 1, 0, 0, (0)), (.iconst 5, 1, 0, 0, (5))]
theorem kX4_enters_7 : xcode (xmb mX4_enters) (xmo mX4_enters) 7 eX4_enters_7 = true := by decide +kernel
def eX4_enters_16 : List xI := [(.iload 4, 2, 0, 0, 0)]
theorem kX4_enters_16 : xcode (xmb mX4_enters) (xmo mX4_enters) 16 eX4_enters_16 = true := by decide +kernel
def eX4_enters_30 : List xI := [(.iload_n 3, 1, 0, 0, 0), (.iconst 0, 1, 0, 0, (0)), (.bipush 25, 2, 0, 0, (25))]
theorem kX4_enters_30 : xcode (xmb mX4_enters) (xmo mX4_enters) 30 eX4_enters_30 = true := by decide +kernel
def eX4_enters_47 : List xI := [(.aload_n 0, 1, 0, 0, 0), (.getfield 7, 3, 4, 1, 0), (.bipush 60, 2, 0, 0, (60)), (.bipush 6, 2, 0, 0, (6)), (.iload_n 1, 1, 0, 0, 0), (.imul, 1, 0, 0, 0), (.iadd, 1, 0, 0, 0), (.iload_n 2, 1, 0, 0, 0), (.iadd, 1, 0, 0, 0), (.bipush 26, 2, 0, 0, (26)), (.iload 4, 2, 0, 0, 0), (.imul, 1, 0, 0, 0), (.iload_n 3, 1, 0, 0, 0), (.iadd, 1, 0, 0, 0), (.iastore, 1, 0, 0, 0), (.iconst 1, 1, 0, 0, (1))]
theorem kX4_enters_47 : xcode (xmb mX4_enters) (xmo mX4_enters) 47 eX4_enters_47 = true := by decide +kernel
def eX4_enters_40 : List xI := [(.aload_n 0, 1, 0, 0, 0), (.bipush (-2), 2, 0, 0, (-2))]
theorem kX4_enters_40 : xcode (xmb mX4_enters) (xmo mX4_enters) 40 eX4_enters_40 = true := by decide +kernel
def wX4_enters_24 (p1 : Int32) (p2 : Int32) (p3 : Int32) (p4 : Int32) (Q : Int32 → xM → Prop) (M : xM) : Prop :=
    wX4_refused M (-1 : Int32) (fun r26 M26 => Q r26 M26)
set_option maxHeartbeats 4000000 in
set_option maxRecDepth 100000 in
theorem tX4_enters_24 {l : Launch} {E : xE} {p1 : Int32} {p2 : Int32} {p3 : Int32} {p4 : Int32} {Q : Int32 → xM → Prop} (M : xM) (h : wX4_enters_24 p1 p2 p3 p4 Q M ) : Gx l E mX4_enters (xRi Q) 24 M [some (.ref 50), none, none, none, none] [] := by
  unfold wX4_enters_24 at h
  refine Gx_run (es := eX4_enters_24) (P := []) (M' := M) (L' := [some (.ref 50), none, none, none, none]) (st' := [.int (-1 : Int32), .ref 50]) (pc' := 26) kX4_enters_24 rfl trivial rfl ?_
  refine Gx_callV (As := [.int (-1 : Int32)]) (by decide +kernel) ml_4_55 okX4_refused mvX4_refused rfl (by decide) (Nat.le_of_ble_eq_true rfl) rfl rfl rfl (tX4_refused h) (fun rr M26 qq => ?_)
  obtain ⟨r26, rfl, h⟩ := qq
  show Gx l E mX4_enters _ 29 M26 [some (.ref 50), none, none, none, none] [.int r26]
  exact Gx_iret (by decide +kernel) rfl rfl ⟨_, rfl, h⟩
def wX4_enters (M : xM) (p1 : Int32) (p2 : Int32) (p3 : Int32) (p4 : Int32) (Q : Int32 → xM → Prop) : Prop :=
    wX4_isInode M p1 (fun r1 M1 => (((r1 = 0) → (wX4_enters_24 p1 p2 p3 p4 Q M1)) ∧ ((¬ r1 = 0) → (wX4_in M1 p2 (0 : Int32) (5 : Int32) (fun r10 M10 => (((r10 = 0) → (wX4_enters_24 p1 p2 p3 p4 Q M10)) ∧ ((¬ r10 = 0) → (wX4_isInode M10 p4 (fun r18 M18 => (((¬ r18 = 0) → (wX4_in M18 p3 (0 : Int32) (25 : Int32) (fun r34 M34 => (((¬ r34 = 0) → ((vp_in (((60 : Int32) + ((6 : Int32) * p1)) + p2) 147) ∧ Q (1 : Int32) (xup M34 51 (((60 : Int32) + ((6 : Int32) * p1)) + p2).toNatClampNeg (((26 : Int32) * p4) + p3)))) ∧ ((r34 = 0) → (wX4_refused M34 (-2 : Int32) (fun r43 M43 => Q r43 M43))))))) ∧ ((r18 = 0) → (wX4_enters_24 p1 p2 p3 p4 Q M18))))))))))))
set_option maxHeartbeats 4000000 in
set_option maxRecDepth 100000 in
theorem tX4_enters {l : Launch} {E : xE} {M : xM} {p1 : Int32} {p2 : Int32} {p3 : Int32} {p4 : Int32} {Q : Int32 → xM → Prop} (h : wX4_enters M p1 p2 p3 p4 Q) : Ct l E mX4_enters [.ref 50, .int p1, .int p2, .int p3, .int p4] M (xRi Q) := by
  refine Ct_of (by decide +kernel) rfl (Nat.le_of_ble_eq_true rfl) ?_
  unfold wX4_enters at h
  show Gx l E mX4_enters (xRi Q) 0 M [some (.ref 50), some (.int p1), some (.int p2), some (.int p3), some (.int p4)] []
  refine Gx_run (es := eX4_enters_0) (P := []) (M' := M) (L' := [some (.ref 50), some (.int p1), some (.int p2), some (.int p3), some (.int p4)]) (st' := [.int p1]) (pc' := 1) kX4_enters_0 rfl trivial rfl ?_
  refine Gx_callS (As := [.int p1]) (by decide +kernel) ml_4_111 okX4_isInode mvX4_isInode rfl (by decide) (Nat.le_of_ble_eq_true rfl) (tX4_isInode h) (fun rr M1 qq => ?_)
  obtain ⟨r1, rfl, h⟩ := qq
  show Gx l E mX4_enters _ 4 M1 [some (.ref 50), some (.int p1), some (.int p2), some (.int p3), some (.int p4)] [.int r1]
  refine Gx_if_eq (off := 20) (tgt := 24) (by decide +kernel) (by decide) (fun z => ?_) (fun z => ?_)
  · have h := h.1 z
    refine Gx_mask [true, false, false, false, false] (L' := [some (.ref 50), none, none, none, none]) rfl ?_
    exact tX4_enters_24  M1 h
  · have h := h.2 z
    refine Gx_run (es := eX4_enters_7) (P := []) (M' := M1) (L' := [some (.ref 50), some (.int p1), some (.int p2), some (.int p3), some (.int p4)]) (st' := [.int (5 : Int32), .int (0 : Int32), .int p2]) (pc' := 10) kX4_enters_7 rfl trivial rfl ?_
    refine Gx_callS (As := [.int p2, .int (0 : Int32), .int (5 : Int32)]) (by decide +kernel) ml_4_43 okX4_in mvX4_in rfl (by decide) (Nat.le_of_ble_eq_true rfl) (tX4_in h) (fun rr M10 qq => ?_)
    obtain ⟨r10, rfl, h⟩ := qq
    show Gx l E mX4_enters _ 13 M10 [some (.ref 50), some (.int p1), some (.int p2), some (.int p3), some (.int p4)] [.int r10]
    refine Gx_if_eq (off := 11) (tgt := 24) (by decide +kernel) (by decide) (fun z => ?_) (fun z => ?_)
    · have h := h.1 z
      refine Gx_mask [true, false, false, false, false] (L' := [some (.ref 50), none, none, none, none]) rfl ?_
      exact tX4_enters_24  M10 h
    · have h := h.2 z
      refine Gx_run (es := eX4_enters_16) (P := []) (M' := M10) (L' := [some (.ref 50), some (.int p1), some (.int p2), some (.int p3), some (.int p4)]) (st' := [.int p4]) (pc' := 18) kX4_enters_16 rfl trivial rfl ?_
      refine Gx_callS (As := [.int p4]) (by decide +kernel) ml_4_111 okX4_isInode mvX4_isInode rfl (by decide) (Nat.le_of_ble_eq_true rfl) (tX4_isInode h) (fun rr M18 qq => ?_)
      obtain ⟨r18, rfl, h⟩ := qq
      show Gx l E mX4_enters _ 21 M18 [some (.ref 50), some (.int p1), some (.int p2), some (.int p3), some (.int p4)] [.int r18]
      refine Gx_if_ne (off := 9) (tgt := 30) (by decide +kernel) (by decide) (fun z => ?_) (fun z => ?_)
      · have h := h.1 z
        refine Gx_run (es := eX4_enters_30) (P := []) (M' := M18) (L' := [some (.ref 50), some (.int p1), some (.int p2), some (.int p3), some (.int p4)]) (st' := [.int (25 : Int32), .int (0 : Int32), .int p3]) (pc' := 34) kX4_enters_30 rfl trivial rfl ?_
        refine Gx_callS (As := [.int p3, .int (0 : Int32), .int (25 : Int32)]) (by decide +kernel) ml_4_43 okX4_in mvX4_in rfl (by decide) (Nat.le_of_ble_eq_true rfl) (tX4_in h) (fun rr M34 qq => ?_)
        obtain ⟨r34, rfl, h⟩ := qq
        show Gx l E mX4_enters _ 37 M34 [some (.ref 50), some (.int p1), some (.int p2), some (.int p3), some (.int p4)] [.int r34]
        refine Gx_if_ne (off := 10) (tgt := 47) (by decide +kernel) (by decide) (fun z => ?_) (fun z => ?_)
        · have h := h.1 z
          obtain ⟨g47_0, h⟩ := h
          refine Gx_run (es := eX4_enters_47) (P := [xkd 50 = 4, xkd 51 = 5, vp_in (((60 : Int32) + ((6 : Int32) * p1)) + p2) (xln 51)]) (M' := (xup M34 51 (((60 : Int32) + ((6 : Int32) * p1)) + p2).toNatClampNeg (((26 : Int32) * p4) + p3))) (L' := [some (.ref 50), some (.int p1), some (.int p2), some (.int p3), some (.int p4)]) (st' := [.int (1 : Int32)]) (pc' := 69) kX4_enters_47 rfl ⟨rfl, rfl, g47_0, trivial⟩ rfl ?_
          exact Gx_iret (by decide +kernel) rfl rfl ⟨_, rfl, h⟩
        · have h := h.2 z
          refine Gx_run (es := eX4_enters_40) (P := []) (M' := M34) (L' := [some (.ref 50), some (.int p1), some (.int p2), some (.int p3), some (.int p4)]) (st' := [.int (-2 : Int32), .ref 50]) (pc' := 43) kX4_enters_40 rfl trivial rfl ?_
          refine Gx_callV (As := [.int (-2 : Int32)]) (by decide +kernel) ml_4_55 okX4_refused mvX4_refused rfl (by decide) (Nat.le_of_ble_eq_true rfl) rfl rfl rfl (tX4_refused h) (fun rr M43 qq => ?_)
          obtain ⟨r43, rfl, h⟩ := qq
          show Gx l E mX4_enters _ 46 M43 [some (.ref 50), some (.int p1), some (.int p2), some (.int p3), some (.int p4)] [.int r43]
          exact Gx_iret (by decide +kernel) rfl rfl ⟨_, rfl, h⟩
      · have h := h.2 z
        refine Gx_mask [true, false, false, false, false] (L' := [some (.ref 50), none, none, none, none]) rfl ?_
        exact tX4_enters_24  M18 h
def eX4_inode_0 : List xI := [(.iload_n 1, 1, 0, 0, 0)]
theorem kX4_inode_0 : xcode (xmb mX4_inode) (xmo mX4_inode) 0 eX4_inode_0 = true := by decide +kernel
def eX4_inode_13 : List xI := [(.iload_n 2, 1, 0, 0, 0)]
theorem kX4_inode_13 : xcode (xmb mX4_inode) (xmo mX4_inode) 13 eX4_inode_13 = true := by decide +kernel
def eX4_inode_56 : List xI := [(.aload_n 0, 1, 0, 0, 0), (.getfield 7, 3, 4, 1, 0), (.iconst 0, 1, 0, 0, (0)), (.iload_n 1, 1, 0, 0, 0), (.iadd, 1, 0, 0, 0), (.iaload, 1, 0, 0, 0)]
theorem kX4_inode_56 : xcode (xmb mX4_inode) (xmo mX4_inode) 56 eX4_inode_56 = true := by decide +kernel
def eX4_inode_65 : List xI := [(.aload_n 0, 1, 0, 0, 0), (.getfield 7, 3, 4, 1, 0), (.bipush 10, 2, 0, 0, (10)), (.iload_n 1, 1, 0, 0, 0), (.iadd, 1, 0, 0, 0), (.iaload, 1, 0, 0, 0)]
theorem kX4_inode_65 : xcode (xmb mX4_inode) (xmo mX4_inode) 65 eX4_inode_65 = true := by decide +kernel
def eX4_inode_75 : List xI := [(.aload_n 0, 1, 0, 0, 0), (.getfield 7, 3, 4, 1, 0), (.bipush 20, 2, 0, 0, (20)), (.iload_n 1, 1, 0, 0, 0), (.iadd, 1, 0, 0, 0), (.iaload, 1, 0, 0, 0)]
theorem kX4_inode_75 : xcode (xmb mX4_inode) (xmo mX4_inode) 75 eX4_inode_75 = true := by decide +kernel
def eX4_inode_85 : List xI := [(.aload_n 0, 1, 0, 0, 0), (.getfield 7, 3, 4, 1, 0), (.sipush 145, 3, 0, 0, (145)), (.iaload, 1, 0, 0, 0), (.iload_n 1, 1, 0, 0, 0), (.ishr, 1, 0, 0, 0), (.iconst 1, 1, 0, 0, (1)), (.iand, 1, 0, 0, 0)]
theorem kX4_inode_85 : xcode (xmb mX4_inode) (xmo mX4_inode) 85 eX4_inode_85 = true := by decide +kernel
def eX4_inode_98 : List xI := [(.aload_n 0, 1, 0, 0, 0), (.getfield 7, 3, 4, 1, 0), (.iconst 0, 1, 0, 0, (0)), (.iload_n 1, 1, 0, 0, 0), (.iadd, 1, 0, 0, 0), (.iaload, 1, 0, 0, 0)]
theorem kX4_inode_98 : xcode (xmb mX4_inode) (xmo mX4_inode) 98 eX4_inode_98 = true := by decide +kernel
def eX4_inode_110 : List xI := [(.aload_n 0, 1, 0, 0, 0), (.getfield 7, 3, 4, 1, 0), (.iconst 0, 1, 0, 0, (0)), (.iload_n 1, 1, 0, 0, 0), (.iadd, 1, 0, 0, 0), (.iaload, 1, 0, 0, 0)]
theorem kX4_inode_110 : xcode (xmb mX4_inode) (xmo mX4_inode) 110 eX4_inode_110 = true := by decide +kernel
def eX4_inode_122 : List xI := [(.iconst 0, 1, 0, 0, (0)), (.istore_n 3, 1, 0, 0, 0), (.iconst 0, 1, 0, 0, (0)), (.istore 4, 2, 0, 0, 0)]
theorem kX4_inode_122 : xcode (xmb mX4_inode) (xmo mX4_inode) 122 eX4_inode_122 = true := by decide +kernel
def eX4_inode_127 : List xI := [(.iload 4, 2, 0, 0, 0), (.bipush 6, 2, 0, 0, (6))]
theorem kX4_inode_127 : xcode (xmb mX4_inode) (xmo mX4_inode) 127 eX4_inode_127 = true := by decide +kernel
def eX4_inode_167 : List xI := [(.iload_n 3, 1, 0, 0, 0)]
theorem kX4_inode_167 : xcode (xmb mX4_inode) (xmo mX4_inode) 167 eX4_inode_167 = true := by decide +kernel
def eX4_inode_134 : List xI := [(.iload_n 3, 1, 0, 0, 0), (.aload_n 0, 1, 0, 0, 0), (.getfield 7, 3, 4, 1, 0), (.bipush 60, 2, 0, 0, (60)), (.bipush 6, 2, 0, 0, (6)), (.iload_n 1, 1, 0, 0, 0), (.imul, 1, 0, 0, 0), (.iadd, 1, 0, 0, 0), (.iload 4, 2, 0, 0, 0), (.iadd, 1, 0, 0, 0), (.iaload, 1, 0, 0, 0), (.iconst (-1), 1, 0, 0, (-1))]
theorem kX4_inode_134 : xcode (xmb mX4_inode) (xmo mX4_inode) 134 eX4_inode_134 = true := by decide +kernel
def eX4_inode_158 : List xI := [(.iconst 1, 1, 0, 0, (1))]
theorem kX4_inode_158 : xcode (xmb mX4_inode) (xmo mX4_inode) 158 eX4_inode_158 = true := by decide +kernel
def eX4_inode_159 : List xI := [(.iadd, 1, 0, 0, 0), (.istore_n 3, 1, 0, 0, 0), (.iinc 4 1, 3, 0, 0, (1))]
theorem kX4_inode_159 : xcode (xmb mX4_inode) (xmo mX4_inode) 159 eX4_inode_159 = true := by decide +kernel
def eX4_inode_154 : List xI := [(.iconst 0, 1, 0, 0, (0))]
theorem kX4_inode_154 : xcode (xmb mX4_inode) (xmo mX4_inode) 154 eX4_inode_154 = true := by decide +kernel
def eX4_inode_169 : List xI := [(.aload_n 0, 1, 0, 0, 0), (.bipush (-2), 2, 0, 0, (-2))]
theorem kX4_inode_169 : xcode (xmb mX4_inode) (xmo mX4_inode) 169 eX4_inode_169 = true := by decide +kernel
def eX4_inode_7 : List xI := [(.aload_n 0, 1, 0, 0, 0), (.iconst (-1), 1, 0, 0, (-1))]
theorem kX4_inode_7 : xcode (xmb mX4_inode) (xmo mX4_inode) 7 eX4_inode_7 = true := by decide +kernel
def wX4_inode_159 (p1 : Int32) (p2 : Int32) (Q : Int32 → xM → Prop) (k127 : xM → Int32 → Int32 → Prop) (M : xM) (a4 : Int32) (s0 : Int32) (s1 : Int32) : Prop :=
    k127 M (s1 + s0) (a4 + (1 : Int32))
set_option maxHeartbeats 4000000 in
set_option maxRecDepth 100000 in
theorem tX4_inode_159 {l : Launch} {E : xE} {p1 : Int32} {p2 : Int32} {Q : Int32 → xM → Prop} {k127 : xM → Int32 → Int32 → Prop} (hk127 : ∀ (M : xM) (a3 : Int32) (a4 : Int32), k127 M a3 a4 → Gx l E mX4_inode (xRi Q) 127 M [some (.ref 50), some (.int p1), none, some (.int a3), some (.int a4)] []) (M : xM) (a4 : Int32) (s0 : Int32) (s1 : Int32) (h : wX4_inode_159 p1 p2 Q k127 M a4 s0 s1) : Gx l E mX4_inode (xRi Q) 159 M [some (.ref 50), some (.int p1), none, none, some (.int a4)] [.int s0, .int s1] := by
  unfold wX4_inode_159 at h
  refine Gx_run (es := eX4_inode_159) (P := []) (M' := M) (L' := [some (.ref 50), some (.int p1), none, some (.int (s1 + s0)), some (.int (a4 + (1 : Int32)))]) (st' := []) (pc' := 164) kX4_inode_159 rfl trivial rfl ?_
  refine Gx_goto (off := -37) (tgt := 127) (by decide +kernel) (by decide) ?_
  refine Gx_mask [true, true, false, true, true] (L' := [some (.ref 50), some (.int p1), none, some (.int (s1 + s0)), some (.int (a4 + (1 : Int32)))]) rfl ?_
  exact hk127 M (s1 + s0) (a4 + (1 : Int32)) h
def lX4_inode_127 (p1 : Int32) (p2 : Int32) (Q : Int32 → xM → Prop) : Nat → xM → Int32 → Int32 → Prop
  | 0 => fun _ _ _ => False
  | n + 1 => let k127 := lX4_inode_127 p1 p2 Q n; fun M a3 a4 =>
    ((((6 : Int32) ≤ a4) → (Q a3 M)) ∧ ((¬ (6 : Int32) ≤ a4) → ((vp_in (((60 : Int32) + ((6 : Int32) * p1)) + a4) 147) ∧ (((¬ (M 51 (((60 : Int32) + ((6 : Int32) * p1)) + a4).toNatClampNeg) = (-1 : Int32)) → (wX4_inode_159 p1 p2 Q k127 M a4 (1 : Int32) a3)) ∧ (((M 51 (((60 : Int32) + ((6 : Int32) * p1)) + a4).toNatClampNeg) = (-1 : Int32)) → (wX4_inode_159 p1 p2 Q k127 M a4 (0 : Int32) a3))))))
set_option maxHeartbeats 4000000 in
set_option maxRecDepth 100000 in
theorem tX4_inode_127 {l : Launch} {E : xE} {p1 : Int32} {p2 : Int32} {Q : Int32 → xM → Prop} (n : Nat) : ∀ (M : xM) (a3 : Int32) (a4 : Int32), lX4_inode_127 p1 p2 Q n M a3 a4 → Gx l E mX4_inode (xRi Q) 127 M [some (.ref 50), some (.int p1), none, some (.int a3), some (.int a4)] [] := by
  induction n with
  | zero => intro M a3 a4 h; exact h.elim
  | succ n hk127 =>
      intro M a3 a4 h
      unfold lX4_inode_127 at h
      dsimp only at h
      refine Gx_run (es := eX4_inode_127) (P := []) (M' := M) (L' := [some (.ref 50), some (.int p1), none, some (.int a3), some (.int a4)]) (st' := [.int (6 : Int32), .int a4]) (pc' := 131) kX4_inode_127 rfl trivial rfl ?_
      refine Gx_icmp_ge (off := 36) (tgt := 167) (by decide +kernel) (by decide) (fun z => ?_) (fun z => ?_)
      · have h := h.1 z
        refine Gx_run (es := eX4_inode_167) (P := []) (M' := M) (L' := [some (.ref 50), some (.int p1), none, some (.int a3), some (.int a4)]) (st' := [.int a3]) (pc' := 168) kX4_inode_167 rfl trivial rfl ?_
        exact Gx_iret (by decide +kernel) rfl rfl ⟨_, rfl, h⟩
      · have h := h.2 z
        obtain ⟨g134_0, h⟩ := h
        refine Gx_run (es := eX4_inode_134) (P := [xkd 50 = 4, xkd 51 = 5, vp_in (((60 : Int32) + ((6 : Int32) * p1)) + a4) (xln 51)]) (M' := M) (L' := [some (.ref 50), some (.int p1), none, some (.int a3), some (.int a4)]) (st' := [.int (-1 : Int32), .int (M 51 (((60 : Int32) + ((6 : Int32) * p1)) + a4).toNatClampNeg), .int a3]) (pc' := 151) kX4_inode_134 rfl ⟨rfl, rfl, g134_0, trivial⟩ rfl ?_
        refine Gx_icmp_ne (off := 7) (tgt := 158) (by decide +kernel) (by decide) (fun z => ?_) (fun z => ?_)
        · have h := h.1 z
          refine Gx_run (es := eX4_inode_158) (P := []) (M' := M) (L' := [some (.ref 50), some (.int p1), none, some (.int a3), some (.int a4)]) (st' := [.int (1 : Int32), .int a3]) (pc' := 159) kX4_inode_158 rfl trivial rfl ?_
          refine Gx_mask [true, true, false, false, true] (L' := [some (.ref 50), some (.int p1), none, none, some (.int a4)]) rfl ?_
          exact tX4_inode_159  hk127 M a4 (1 : Int32) a3 h
        · have h := h.2 z
          refine Gx_run (es := eX4_inode_154) (P := []) (M' := M) (L' := [some (.ref 50), some (.int p1), none, some (.int a3), some (.int a4)]) (st' := [.int (0 : Int32), .int a3]) (pc' := 155) kX4_inode_154 rfl trivial rfl ?_
          refine Gx_goto (off := 4) (tgt := 159) (by decide +kernel) (by decide) ?_
          refine Gx_mask [true, true, false, false, true] (L' := [some (.ref 50), some (.int p1), none, none, some (.int a4)]) rfl ?_
          exact tX4_inode_159  hk127 M a4 (0 : Int32) a3 h
def wX4_inode (M : xM) (p1 : Int32) (p2 : Int32) (Q : Int32 → xM → Prop) : Prop :=
    wX4_isInode M p1 (fun r1 M1 => (((¬ r1 = 0) → ((((p2 = (0 : Int32)) → ((vp_in ((0 : Int32) + p1) 147) ∧ Q (M1 51 ((0 : Int32) + p1).toNatClampNeg) M1)) ∧ ((¬ p2 = (0 : Int32)) → (((p2 = (1 : Int32)) → ((vp_in ((10 : Int32) + p1) 147) ∧ Q (M1 51 ((10 : Int32) + p1).toNatClampNeg) M1)) ∧ ((¬ p2 = (1 : Int32)) → (((p2 = (2 : Int32)) → ((vp_in ((20 : Int32) + p1) 147) ∧ Q (M1 51 ((20 : Int32) + p1).toNatClampNeg) M1)) ∧ ((¬ p2 = (2 : Int32)) → (((p2 = (3 : Int32)) → ((vp_in (145 : Int32) 147) ∧ Q (((M1 51 (145 : Int32).toNatClampNeg) >>> (p1 &&& 31)) &&& (1 : Int32)) M1)) ∧ ((¬ p2 = (3 : Int32)) → (((p2 = (4 : Int32)) → ((vp_in ((0 : Int32) + p1) 147) ∧ wX4_holds M1 (M1 51 ((0 : Int32) + p1).toNatClampNeg) (fun r106 M106 => Q r106 M106))) ∧ ((¬ p2 = (4 : Int32)) → (((p2 = (5 : Int32)) → ((vp_in ((0 : Int32) + p1) 147) ∧ wX4_lists M1 (M1 51 ((0 : Int32) + p1).toNatClampNeg) (fun r118 M118 => Q r118 M118))) ∧ ((¬ p2 = (5 : Int32)) → (((p2 = (6 : Int32)) → ((∃ n : Nat, lX4_inode_127 p1 p2 Q n M1 (0 : Int32) (0 : Int32)))) ∧ ((¬ p2 = (6 : Int32)) → (wX4_refused M1 (-2 : Int32) (fun r172 M172 => Q r172 M172)))))))))))))))))) ∧ ((r1 = 0) → (wX4_refused M1 (-1 : Int32) (fun r9 M9 => Q r9 M9)))))
set_option maxHeartbeats 4000000 in
set_option maxRecDepth 100000 in
theorem tX4_inode {l : Launch} {E : xE} {M : xM} {p1 : Int32} {p2 : Int32} {Q : Int32 → xM → Prop} (h : wX4_inode M p1 p2 Q) : Ct l E mX4_inode [.ref 50, .int p1, .int p2] M (xRi Q) := by
  refine Ct_of (by decide +kernel) rfl (Nat.le_of_ble_eq_true rfl) ?_
  unfold wX4_inode at h
  show Gx l E mX4_inode (xRi Q) 0 M [some (.ref 50), some (.int p1), some (.int p2), none, none] []
  refine Gx_run (es := eX4_inode_0) (P := []) (M' := M) (L' := [some (.ref 50), some (.int p1), some (.int p2), none, none]) (st' := [.int p1]) (pc' := 1) kX4_inode_0 rfl trivial rfl ?_
  refine Gx_callS (As := [.int p1]) (by decide +kernel) ml_4_111 okX4_isInode mvX4_isInode rfl (by decide) (Nat.le_of_ble_eq_true rfl) (tX4_isInode h) (fun rr M1 qq => ?_)
  obtain ⟨r1, rfl, h⟩ := qq
  show Gx l E mX4_inode _ 4 M1 [some (.ref 50), some (.int p1), some (.int p2), none, none] [.int r1]
  refine Gx_if_ne (off := 9) (tgt := 13) (by decide +kernel) (by decide) (fun z => ?_) (fun z => ?_)
  · have h := h.1 z
    refine Gx_run (es := eX4_inode_13) (P := []) (M' := M1) (L' := [some (.ref 50), some (.int p1), some (.int p2), none, none]) (st' := [.int p2]) (pc' := 14) kX4_inode_13 rfl trivial rfl ?_
    by_cases z0 : p2 = (0 : Int32)
    · have h := h.1 z0
      refine Gx_tabAt (dflt := 155) (lo := 0) (hi := 6) (offs := #[42, 51, 61, 71, 84, 96, 108]) (len := 42) z0 (by decide +kernel) (by decide) (by decide) (off := 42) (tgt := 56) rfl (by decide) ?_
      obtain ⟨g56_0, h⟩ := h
      refine Gx_run (es := eX4_inode_56) (P := [xkd 50 = 4, xkd 51 = 5, vp_in ((0 : Int32) + p1) (xln 51)]) (M' := M1) (L' := [some (.ref 50), some (.int p1), some (.int p2), none, none]) (st' := [.int (M1 51 ((0 : Int32) + p1).toNatClampNeg)]) (pc' := 64) kX4_inode_56 rfl ⟨rfl, rfl, g56_0, trivial⟩ rfl ?_
      exact Gx_iret (by decide +kernel) rfl rfl ⟨_, rfl, h⟩
    replace h := h.2 z0
    by_cases z1 : p2 = (1 : Int32)
    · have h := h.1 z1
      refine Gx_tabAt (dflt := 155) (lo := 0) (hi := 6) (offs := #[42, 51, 61, 71, 84, 96, 108]) (len := 42) z1 (by decide +kernel) (by decide) (by decide) (off := 51) (tgt := 65) rfl (by decide) ?_
      obtain ⟨g65_0, h⟩ := h
      refine Gx_run (es := eX4_inode_65) (P := [xkd 50 = 4, xkd 51 = 5, vp_in ((10 : Int32) + p1) (xln 51)]) (M' := M1) (L' := [some (.ref 50), some (.int p1), some (.int p2), none, none]) (st' := [.int (M1 51 ((10 : Int32) + p1).toNatClampNeg)]) (pc' := 74) kX4_inode_65 rfl ⟨rfl, rfl, g65_0, trivial⟩ rfl ?_
      exact Gx_iret (by decide +kernel) rfl rfl ⟨_, rfl, h⟩
    replace h := h.2 z1
    by_cases z2 : p2 = (2 : Int32)
    · have h := h.1 z2
      refine Gx_tabAt (dflt := 155) (lo := 0) (hi := 6) (offs := #[42, 51, 61, 71, 84, 96, 108]) (len := 42) z2 (by decide +kernel) (by decide) (by decide) (off := 61) (tgt := 75) rfl (by decide) ?_
      obtain ⟨g75_0, h⟩ := h
      refine Gx_run (es := eX4_inode_75) (P := [xkd 50 = 4, xkd 51 = 5, vp_in ((20 : Int32) + p1) (xln 51)]) (M' := M1) (L' := [some (.ref 50), some (.int p1), some (.int p2), none, none]) (st' := [.int (M1 51 ((20 : Int32) + p1).toNatClampNeg)]) (pc' := 84) kX4_inode_75 rfl ⟨rfl, rfl, g75_0, trivial⟩ rfl ?_
      exact Gx_iret (by decide +kernel) rfl rfl ⟨_, rfl, h⟩
    replace h := h.2 z2
    by_cases z3 : p2 = (3 : Int32)
    · have h := h.1 z3
      refine Gx_tabAt (dflt := 155) (lo := 0) (hi := 6) (offs := #[42, 51, 61, 71, 84, 96, 108]) (len := 42) z3 (by decide +kernel) (by decide) (by decide) (off := 71) (tgt := 85) rfl (by decide) ?_
      obtain ⟨g85_0, h⟩ := h
      refine Gx_run (es := eX4_inode_85) (P := [xkd 50 = 4, xkd 51 = 5, vp_in (145 : Int32) (xln 51)]) (M' := M1) (L' := [some (.ref 50), some (.int p1), some (.int p2), none, none]) (st' := [.int (((M1 51 (145 : Int32).toNatClampNeg) >>> (p1 &&& 31)) &&& (1 : Int32))]) (pc' := 97) kX4_inode_85 rfl ⟨rfl, rfl, g85_0, trivial⟩ rfl ?_
      exact Gx_iret (by decide +kernel) rfl rfl ⟨_, rfl, h⟩
    replace h := h.2 z3
    by_cases z4 : p2 = (4 : Int32)
    · have h := h.1 z4
      refine Gx_tabAt (dflt := 155) (lo := 0) (hi := 6) (offs := #[42, 51, 61, 71, 84, 96, 108]) (len := 42) z4 (by decide +kernel) (by decide) (by decide) (off := 84) (tgt := 98) rfl (by decide) ?_
      obtain ⟨g98_0, h⟩ := h
      refine Gx_run (es := eX4_inode_98) (P := [xkd 50 = 4, xkd 51 = 5, vp_in ((0 : Int32) + p1) (xln 51)]) (M' := M1) (L' := [some (.ref 50), some (.int p1), some (.int p2), none, none]) (st' := [.int (M1 51 ((0 : Int32) + p1).toNatClampNeg)]) (pc' := 106) kX4_inode_98 rfl ⟨rfl, rfl, g98_0, trivial⟩ rfl ?_
      refine Gx_callS (As := [.int (M1 51 ((0 : Int32) + p1).toNatClampNeg)]) (by decide +kernel) ml_4_115 okX4_holds mvX4_holds rfl (by decide) (Nat.le_of_ble_eq_true rfl) (tX4_holds h) (fun rr M106 qq => ?_)
      obtain ⟨r106, rfl, h⟩ := qq
      show Gx l E mX4_inode _ 109 M106 [some (.ref 50), some (.int p1), some (.int p2), none, none] [.int r106]
      exact Gx_iret (by decide +kernel) rfl rfl ⟨_, rfl, h⟩
    replace h := h.2 z4
    by_cases z5 : p2 = (5 : Int32)
    · have h := h.1 z5
      refine Gx_tabAt (dflt := 155) (lo := 0) (hi := 6) (offs := #[42, 51, 61, 71, 84, 96, 108]) (len := 42) z5 (by decide +kernel) (by decide) (by decide) (off := 96) (tgt := 110) rfl (by decide) ?_
      obtain ⟨g110_0, h⟩ := h
      refine Gx_run (es := eX4_inode_110) (P := [xkd 50 = 4, xkd 51 = 5, vp_in ((0 : Int32) + p1) (xln 51)]) (M' := M1) (L' := [some (.ref 50), some (.int p1), some (.int p2), none, none]) (st' := [.int (M1 51 ((0 : Int32) + p1).toNatClampNeg)]) (pc' := 118) kX4_inode_110 rfl ⟨rfl, rfl, g110_0, trivial⟩ rfl ?_
      refine Gx_callS (As := [.int (M1 51 ((0 : Int32) + p1).toNatClampNeg)]) (by decide +kernel) ml_4_118 okX4_lists mvX4_lists rfl (by decide) (Nat.le_of_ble_eq_true rfl) (tX4_lists h) (fun rr M118 qq => ?_)
      obtain ⟨r118, rfl, h⟩ := qq
      show Gx l E mX4_inode _ 121 M118 [some (.ref 50), some (.int p1), some (.int p2), none, none] [.int r118]
      exact Gx_iret (by decide +kernel) rfl rfl ⟨_, rfl, h⟩
    replace h := h.2 z5
    by_cases z6 : p2 = (6 : Int32)
    · have h := h.1 z6
      refine Gx_tabAt (dflt := 155) (lo := 0) (hi := 6) (offs := #[42, 51, 61, 71, 84, 96, 108]) (len := 42) z6 (by decide +kernel) (by decide) (by decide) (off := 108) (tgt := 122) rfl (by decide) ?_
      refine Gx_run (es := eX4_inode_122) (P := []) (M' := M1) (L' := [some (.ref 50), some (.int p1), some (.int p2), some (.int (0 : Int32)), some (.int (0 : Int32))]) (st' := []) (pc' := 127) kX4_inode_122 rfl trivial rfl ?_
      refine Gx_mask [true, true, false, true, true] (L' := [some (.ref 50), some (.int p1), none, some (.int (0 : Int32)), some (.int (0 : Int32))]) rfl ?_
      obtain ⟨n, h⟩ := h
      exact tX4_inode_127  n M1 (0 : Int32) (0 : Int32) h
    replace h := h.2 z6
    suffices hk : Gx l E mX4_inode _ 169 M1 [some (.ref 50), some (.int p1), some (.int p2), none, none] [] by
      refine Gx_tableOut (dflt := 155) (lo := 0) (hi := 6) (offs := #[42, 51, 61, 71, 84, 96, 108]) (len := 42) (tgt := 169) (by decide +kernel) ?_ (by decide) hk
      have n0 := lv_neT (a := 0) z0 (by decide)
      have n1 := lv_neT (a := 1) z1 (by decide)
      have n2 := lv_neT (a := 2) z2 (by decide)
      have n3 := lv_neT (a := 3) z3 (by decide)
      have n4 := lv_neT (a := 4) z4 (by decide)
      have n5 := lv_neT (a := 5) z5 (by decide)
      have n6 := lv_neT (a := 6) z6 (by decide)
      omega
    refine Gx_run (es := eX4_inode_169) (P := []) (M' := M1) (L' := [some (.ref 50), some (.int p1), some (.int p2), none, none]) (st' := [.int (-2 : Int32), .ref 50]) (pc' := 172) kX4_inode_169 rfl trivial rfl ?_
    refine Gx_callV (As := [.int (-2 : Int32)]) (by decide +kernel) ml_4_55 okX4_refused mvX4_refused rfl (by decide) (Nat.le_of_ble_eq_true rfl) rfl rfl rfl (tX4_refused h) (fun rr M172 qq => ?_)
    obtain ⟨r172, rfl, h⟩ := qq
    show Gx l E mX4_inode _ 175 M172 [some (.ref 50), some (.int p1), some (.int p2), none, none] [.int r172]
    exact Gx_iret (by decide +kernel) rfl rfl ⟨_, rfl, h⟩
  · have h := h.2 z
    refine Gx_run (es := eX4_inode_7) (P := []) (M' := M1) (L' := [some (.ref 50), some (.int p1), some (.int p2), none, none]) (st' := [.int (-1 : Int32), .ref 50]) (pc' := 9) kX4_inode_7 rfl trivial rfl ?_
    refine Gx_callV (As := [.int (-1 : Int32)]) (by decide +kernel) ml_4_55 okX4_refused mvX4_refused rfl (by decide) (Nat.le_of_ble_eq_true rfl) rfl rfl rfl (tX4_refused h) (fun rr M9 qq => ?_)
    obtain ⟨r9, rfl, h⟩ := qq
    show Gx l E mX4_inode _ 12 M9 [some (.ref 50), some (.int p1), some (.int p2), none, none] [.int r9]
    exact Gx_iret (by decide +kernel) rfl rfl ⟨_, rfl, h⟩
def eX4_kind_0 : List xI := [(.iload_n 1, 1, 0, 0, 0)]
theorem kX4_kind_0 : xcode (xmb mX4_kind) (xmo mX4_kind) 0 eX4_kind_0 = true := by decide +kernel
def eX4_kind_13 : List xI := [(.iload_n 2, 1, 0, 0, 0), (.iconst 0, 1, 0, 0, (0)), (.iconst 5, 1, 0, 0, (5))]
theorem kX4_kind_13 : xcode (xmb mX4_kind) (xmo mX4_kind) 13 eX4_kind_13 = true := by decide +kernel
def eX4_kind_33 : List xI := [(.aload_n 0, 1, 0, 0, 0), (.bipush (-2), 2, 0, 0, (-2))]
theorem kX4_kind_33 : xcode (xmb mX4_kind) (xmo mX4_kind) 33 eX4_kind_33 = true := by decide +kernel
def eX4_kind_22 : List xI := [(.aload_n 0, 1, 0, 0, 0), (.iconst 0, 1, 0, 0, (0)), (.iload_n 1, 1, 0, 0, 0), (.iadd, 1, 0, 0, 0), (.iload_n 2, 1, 0, 0, 0)]
theorem kX4_kind_22 : xcode (xmb mX4_kind) (xmo mX4_kind) 22 eX4_kind_22 = true := by decide +kernel
def eX4_kind_7 : List xI := [(.aload_n 0, 1, 0, 0, 0), (.iconst (-1), 1, 0, 0, (-1))]
theorem kX4_kind_7 : xcode (xmb mX4_kind) (xmo mX4_kind) 7 eX4_kind_7 = true := by decide +kernel
def wX4_kind_39 (p1 : Int32) (p2 : Int32) (Q : Int32 → xM → Prop) (M : xM) (s0 : Int32) : Prop :=
    Q s0 M
set_option maxHeartbeats 4000000 in
set_option maxRecDepth 100000 in
theorem tX4_kind_39 {l : Launch} {E : xE} {p1 : Int32} {p2 : Int32} {Q : Int32 → xM → Prop} (M : xM) (s0 : Int32) (h : wX4_kind_39 p1 p2 Q M s0) : Gx l E mX4_kind (xRi Q) 39 M [none, none, none] [.int s0] := by
  unfold wX4_kind_39 at h
  exact Gx_iret (by decide +kernel) rfl rfl ⟨_, rfl, h⟩
def wX4_kind (M : xM) (p1 : Int32) (p2 : Int32) (Q : Int32 → xM → Prop) : Prop :=
    wX4_isInode M p1 (fun r1 M1 => (((¬ r1 = 0) → (wX4_in M1 p2 (0 : Int32) (5 : Int32) (fun r16 M16 => (((r16 = 0) → (wX4_refused M16 (-2 : Int32) (fun r36 M36 => wX4_kind_39 p1 p2 Q M36 r36))) ∧ ((¬ r16 = 0) → (wX4_becomes M16 ((0 : Int32) + p1) p2 (fun r27 M27 => wX4_kind_39 p1 p2 Q M27 r27))))))) ∧ ((r1 = 0) → (wX4_refused M1 (-1 : Int32) (fun r9 M9 => Q r9 M9)))))
set_option maxHeartbeats 4000000 in
set_option maxRecDepth 100000 in
theorem tX4_kind {l : Launch} {E : xE} {M : xM} {p1 : Int32} {p2 : Int32} {Q : Int32 → xM → Prop} (h : wX4_kind M p1 p2 Q) : Ct l E mX4_kind [.ref 50, .int p1, .int p2] M (xRi Q) := by
  refine Ct_of (by decide +kernel) rfl (Nat.le_of_ble_eq_true rfl) ?_
  unfold wX4_kind at h
  show Gx l E mX4_kind (xRi Q) 0 M [some (.ref 50), some (.int p1), some (.int p2)] []
  refine Gx_run (es := eX4_kind_0) (P := []) (M' := M) (L' := [some (.ref 50), some (.int p1), some (.int p2)]) (st' := [.int p1]) (pc' := 1) kX4_kind_0 rfl trivial rfl ?_
  refine Gx_callS (As := [.int p1]) (by decide +kernel) ml_4_111 okX4_isInode mvX4_isInode rfl (by decide) (Nat.le_of_ble_eq_true rfl) (tX4_isInode h) (fun rr M1 qq => ?_)
  obtain ⟨r1, rfl, h⟩ := qq
  show Gx l E mX4_kind _ 4 M1 [some (.ref 50), some (.int p1), some (.int p2)] [.int r1]
  refine Gx_if_ne (off := 9) (tgt := 13) (by decide +kernel) (by decide) (fun z => ?_) (fun z => ?_)
  · have h := h.1 z
    refine Gx_run (es := eX4_kind_13) (P := []) (M' := M1) (L' := [some (.ref 50), some (.int p1), some (.int p2)]) (st' := [.int (5 : Int32), .int (0 : Int32), .int p2]) (pc' := 16) kX4_kind_13 rfl trivial rfl ?_
    refine Gx_callS (As := [.int p2, .int (0 : Int32), .int (5 : Int32)]) (by decide +kernel) ml_4_43 okX4_in mvX4_in rfl (by decide) (Nat.le_of_ble_eq_true rfl) (tX4_in h) (fun rr M16 qq => ?_)
    obtain ⟨r16, rfl, h⟩ := qq
    show Gx l E mX4_kind _ 19 M16 [some (.ref 50), some (.int p1), some (.int p2)] [.int r16]
    refine Gx_if_eq (off := 14) (tgt := 33) (by decide +kernel) (by decide) (fun z => ?_) (fun z => ?_)
    · have h := h.1 z
      refine Gx_run (es := eX4_kind_33) (P := []) (M' := M16) (L' := [some (.ref 50), some (.int p1), some (.int p2)]) (st' := [.int (-2 : Int32), .ref 50]) (pc' := 36) kX4_kind_33 rfl trivial rfl ?_
      refine Gx_callV (As := [.int (-2 : Int32)]) (by decide +kernel) ml_4_55 okX4_refused mvX4_refused rfl (by decide) (Nat.le_of_ble_eq_true rfl) rfl rfl rfl (tX4_refused h) (fun rr M36 qq => ?_)
      obtain ⟨r36, rfl, h⟩ := qq
      show Gx l E mX4_kind _ 39 M36 [some (.ref 50), some (.int p1), some (.int p2)] [.int r36]
      refine Gx_mask [false, false, false] (L' := [none, none, none]) rfl ?_
      exact tX4_kind_39  M36 r36 h
    · have h := h.2 z
      refine Gx_run (es := eX4_kind_22) (P := []) (M' := M16) (L' := [some (.ref 50), some (.int p1), some (.int p2)]) (st' := [.int p2, .int ((0 : Int32) + p1), .ref 50]) (pc' := 27) kX4_kind_22 rfl trivial rfl ?_
      refine Gx_callV (As := [.int ((0 : Int32) + p1), .int p2]) (by decide +kernel) ml_4_130 okX4_becomes mvX4_becomes rfl (by decide) (Nat.le_of_ble_eq_true rfl) rfl rfl rfl (tX4_becomes h) (fun rr M27 qq => ?_)
      obtain ⟨r27, rfl, h⟩ := qq
      show Gx l E mX4_kind _ 30 M27 [some (.ref 50), some (.int p1), some (.int p2)] [.int r27]
      refine Gx_goto (off := 9) (tgt := 39) (by decide +kernel) (by decide) ?_
      refine Gx_mask [false, false, false] (L' := [none, none, none]) rfl ?_
      exact tX4_kind_39  M27 r27 h
  · have h := h.2 z
    refine Gx_run (es := eX4_kind_7) (P := []) (M' := M1) (L' := [some (.ref 50), some (.int p1), some (.int p2)]) (st' := [.int (-1 : Int32), .ref 50]) (pc' := 9) kX4_kind_7 rfl trivial rfl ?_
    refine Gx_callV (As := [.int (-1 : Int32)]) (by decide +kernel) ml_4_55 okX4_refused mvX4_refused rfl (by decide) (Nat.le_of_ble_eq_true rfl) rfl rfl rfl (tX4_refused h) (fun rr M9 qq => ?_)
    obtain ⟨r9, rfl, h⟩ := qq
    show Gx l E mX4_kind _ 12 M9 [some (.ref 50), some (.int p1), some (.int p2)] [.int r9]
    exact Gx_iret (by decide +kernel) rfl rfl ⟨_, rfl, h⟩
def eX4_links_0 : List xI := [(.iload_n 1, 1, 0, 0, 0)]
theorem kX4_links_0 : xcode (xmb mX4_links) (xmo mX4_links) 0 eX4_links_0 = true := by decide +kernel
def eX4_links_14 : List xI := [(.aload_n 0, 1, 0, 0, 0), (.iconst (-1), 1, 0, 0, (-1))]
theorem kX4_links_14 : xcode (xmb mX4_links) (xmo mX4_links) 14 eX4_links_14 = true := by decide +kernel
def eX4_links_7 : List xI := [(.iload_n 3, 1, 0, 0, 0)]
theorem kX4_links_7 : xcode (xmb mX4_links) (xmo mX4_links) 7 eX4_links_7 = true := by decide +kernel
def eX4_links_20 : List xI := [(.iload_n 2, 1, 0, 0, 0)]
theorem kX4_links_20 : xcode (xmb mX4_links) (xmo mX4_links) 20 eX4_links_20 = true := by decide +kernel
def eX4_links_31 : List xI := [(.iload_n 2, 1, 0, 0, 0), (.bipush 9, 2, 0, 0, (9))]
theorem kX4_links_31 : xcode (xmb mX4_links) (xmo mX4_links) 31 eX4_links_31 = true := by decide +kernel
def eX4_links_44 : List xI := [(.aload_n 0, 1, 0, 0, 0), (.bipush 10, 2, 0, 0, (10)), (.iload_n 1, 1, 0, 0, 0), (.iadd, 1, 0, 0, 0), (.iload_n 2, 1, 0, 0, 0)]
theorem kX4_links_44 : xcode (xmb mX4_links) (xmo mX4_links) 44 eX4_links_44 = true := by decide +kernel
def eX4_links_53 : List xI := [(.istore 4, 2, 0, 0, 0), (.bipush 10, 2, 0, 0, (10)), (.iload 4, 2, 0, 0, 0), (.imul, 1, 0, 0, 0), (.aload_n 0, 1, 0, 0, 0), (.bipush 20, 2, 0, 0, (20)), (.iload_n 1, 1, 0, 0, 0), (.iadd, 1, 0, 0, 0), (.iload_n 3, 1, 0, 0, 0)]
theorem kX4_links_53 : xcode (xmb mX4_links) (xmo mX4_links) 53 eX4_links_53 = true := by decide +kernel
def eX4_links_69 : List xI := [(.iadd, 1, 0, 0, 0)]
theorem kX4_links_69 : xcode (xmb mX4_links) (xmo mX4_links) 69 eX4_links_69 = true := by decide +kernel
def eX4_links_37 : List xI := [(.aload_n 0, 1, 0, 0, 0), (.bipush (-6), 2, 0, 0, (-6))]
theorem kX4_links_37 : xcode (xmb mX4_links) (xmo mX4_links) 37 eX4_links_37 = true := by decide +kernel
def eX4_links_24 : List xI := [(.aload_n 0, 1, 0, 0, 0), (.bipush (-4), 2, 0, 0, (-4))]
theorem kX4_links_24 : xcode (xmb mX4_links) (xmo mX4_links) 24 eX4_links_24 = true := by decide +kernel
def wX4_links_14 (p1 : Int32) (p2 : Int32) (p3 : Int32) (Q : Int32 → xM → Prop) (M : xM) : Prop :=
    wX4_refused M (-1 : Int32) (fun r16 M16 => Q r16 M16)
set_option maxHeartbeats 4000000 in
set_option maxRecDepth 100000 in
theorem tX4_links_14 {l : Launch} {E : xE} {p1 : Int32} {p2 : Int32} {p3 : Int32} {Q : Int32 → xM → Prop} (M : xM) (h : wX4_links_14 p1 p2 p3 Q M ) : Gx l E mX4_links (xRi Q) 14 M [some (.ref 50), none, none, none, none] [] := by
  unfold wX4_links_14 at h
  refine Gx_run (es := eX4_links_14) (P := []) (M' := M) (L' := [some (.ref 50), none, none, none, none]) (st' := [.int (-1 : Int32), .ref 50]) (pc' := 16) kX4_links_14 rfl trivial rfl ?_
  refine Gx_callV (As := [.int (-1 : Int32)]) (by decide +kernel) ml_4_55 okX4_refused mvX4_refused rfl (by decide) (Nat.le_of_ble_eq_true rfl) rfl rfl rfl (tX4_refused h) (fun rr M16 qq => ?_)
  obtain ⟨r16, rfl, h⟩ := qq
  show Gx l E mX4_links _ 19 M16 [some (.ref 50), none, none, none, none] [.int r16]
  exact Gx_iret (by decide +kernel) rfl rfl ⟨_, rfl, h⟩
def wX4_links (M : xM) (p1 : Int32) (p2 : Int32) (p3 : Int32) (Q : Int32 → xM → Prop) : Prop :=
    wX4_isInode M p1 (fun r1 M1 => (((r1 = 0) → (wX4_links_14 p1 p2 p3 Q M1)) ∧ ((¬ r1 = 0) → (wX4_isInode M1 p3 (fun r8 M8 => (((¬ r8 = 0) → ((((0 ≤ p2) → ((((p2 ≤ (9 : Int32)) → (wX4_becomes M8 ((10 : Int32) + p1) p2 (fun r50 M50 => wX4_becomes M50 ((20 : Int32) + p1) p3 (fun r66 M66 => Q (((10 : Int32) * r50) + r66) M66)))) ∧ ((¬ p2 ≤ (9 : Int32)) → (wX4_refused M8 (-6 : Int32) (fun r40 M40 => Q r40 M40)))))) ∧ ((¬ 0 ≤ p2) → (wX4_refused M8 (-4 : Int32) (fun r27 M27 => Q r27 M27)))))) ∧ ((r8 = 0) → (wX4_links_14 p1 p2 p3 Q M8))))))))
set_option maxHeartbeats 4000000 in
set_option maxRecDepth 100000 in
theorem tX4_links {l : Launch} {E : xE} {M : xM} {p1 : Int32} {p2 : Int32} {p3 : Int32} {Q : Int32 → xM → Prop} (h : wX4_links M p1 p2 p3 Q) : Ct l E mX4_links [.ref 50, .int p1, .int p2, .int p3] M (xRi Q) := by
  refine Ct_of (by decide +kernel) rfl (Nat.le_of_ble_eq_true rfl) ?_
  unfold wX4_links at h
  show Gx l E mX4_links (xRi Q) 0 M [some (.ref 50), some (.int p1), some (.int p2), some (.int p3), none] []
  refine Gx_run (es := eX4_links_0) (P := []) (M' := M) (L' := [some (.ref 50), some (.int p1), some (.int p2), some (.int p3), none]) (st' := [.int p1]) (pc' := 1) kX4_links_0 rfl trivial rfl ?_
  refine Gx_callS (As := [.int p1]) (by decide +kernel) ml_4_111 okX4_isInode mvX4_isInode rfl (by decide) (Nat.le_of_ble_eq_true rfl) (tX4_isInode h) (fun rr M1 qq => ?_)
  obtain ⟨r1, rfl, h⟩ := qq
  show Gx l E mX4_links _ 4 M1 [some (.ref 50), some (.int p1), some (.int p2), some (.int p3), none] [.int r1]
  refine Gx_if_eq (off := 10) (tgt := 14) (by decide +kernel) (by decide) (fun z => ?_) (fun z => ?_)
  · have h := h.1 z
    refine Gx_mask [true, false, false, false, false] (L' := [some (.ref 50), none, none, none, none]) rfl ?_
    exact tX4_links_14  M1 h
  · have h := h.2 z
    refine Gx_run (es := eX4_links_7) (P := []) (M' := M1) (L' := [some (.ref 50), some (.int p1), some (.int p2), some (.int p3), none]) (st' := [.int p3]) (pc' := 8) kX4_links_7 rfl trivial rfl ?_
    refine Gx_callS (As := [.int p3]) (by decide +kernel) ml_4_111 okX4_isInode mvX4_isInode rfl (by decide) (Nat.le_of_ble_eq_true rfl) (tX4_isInode h) (fun rr M8 qq => ?_)
    obtain ⟨r8, rfl, h⟩ := qq
    show Gx l E mX4_links _ 11 M8 [some (.ref 50), some (.int p1), some (.int p2), some (.int p3), none] [.int r8]
    refine Gx_if_ne (off := 9) (tgt := 20) (by decide +kernel) (by decide) (fun z => ?_) (fun z => ?_)
    · have h := h.1 z
      refine Gx_run (es := eX4_links_20) (P := []) (M' := M8) (L' := [some (.ref 50), some (.int p1), some (.int p2), some (.int p3), none]) (st' := [.int p2]) (pc' := 21) kX4_links_20 rfl trivial rfl ?_
      refine Gx_if_ge (off := 10) (tgt := 31) (by decide +kernel) (by decide) (fun z => ?_) (fun z => ?_)
      · have h := h.1 z
        refine Gx_run (es := eX4_links_31) (P := []) (M' := M8) (L' := [some (.ref 50), some (.int p1), some (.int p2), some (.int p3), none]) (st' := [.int (9 : Int32), .int p2]) (pc' := 34) kX4_links_31 rfl trivial rfl ?_
        refine Gx_icmp_le (off := 10) (tgt := 44) (by decide +kernel) (by decide) (fun z => ?_) (fun z => ?_)
        · have h := h.1 z
          refine Gx_run (es := eX4_links_44) (P := []) (M' := M8) (L' := [some (.ref 50), some (.int p1), some (.int p2), some (.int p3), none]) (st' := [.int p2, .int ((10 : Int32) + p1), .ref 50]) (pc' := 50) kX4_links_44 rfl trivial rfl ?_
          refine Gx_callV (As := [.int ((10 : Int32) + p1), .int p2]) (by decide +kernel) ml_4_130 okX4_becomes mvX4_becomes rfl (by decide) (Nat.le_of_ble_eq_true rfl) rfl rfl rfl (tX4_becomes h) (fun rr M50 qq => ?_)
          obtain ⟨r50, rfl, h⟩ := qq
          show Gx l E mX4_links _ 53 M50 [some (.ref 50), some (.int p1), some (.int p2), some (.int p3), none] [.int r50]
          refine Gx_run (es := eX4_links_53) (P := []) (M' := M50) (L' := [some (.ref 50), some (.int p1), some (.int p2), some (.int p3), some (.int r50)]) (st' := [.int p3, .int ((20 : Int32) + p1), .ref 50, .int ((10 : Int32) * r50)]) (pc' := 66) kX4_links_53 rfl trivial rfl ?_
          refine Gx_callV (As := [.int ((20 : Int32) + p1), .int p3]) (by decide +kernel) ml_4_130 okX4_becomes mvX4_becomes rfl (by decide) (Nat.le_of_ble_eq_true rfl) rfl rfl rfl (tX4_becomes h) (fun rr M66 qq => ?_)
          obtain ⟨r66, rfl, h⟩ := qq
          show Gx l E mX4_links _ 69 M66 [some (.ref 50), some (.int p1), some (.int p2), some (.int p3), some (.int r50)] [.int r66, .int ((10 : Int32) * r50)]
          refine Gx_run (es := eX4_links_69) (P := []) (M' := M66) (L' := [some (.ref 50), some (.int p1), some (.int p2), some (.int p3), some (.int r50)]) (st' := [.int (((10 : Int32) * r50) + r66)]) (pc' := 70) kX4_links_69 rfl trivial rfl ?_
          exact Gx_iret (by decide +kernel) rfl rfl ⟨_, rfl, h⟩
        · have h := h.2 z
          refine Gx_run (es := eX4_links_37) (P := []) (M' := M8) (L' := [some (.ref 50), some (.int p1), some (.int p2), some (.int p3), none]) (st' := [.int (-6 : Int32), .ref 50]) (pc' := 40) kX4_links_37 rfl trivial rfl ?_
          refine Gx_callV (As := [.int (-6 : Int32)]) (by decide +kernel) ml_4_55 okX4_refused mvX4_refused rfl (by decide) (Nat.le_of_ble_eq_true rfl) rfl rfl rfl (tX4_refused h) (fun rr M40 qq => ?_)
          obtain ⟨r40, rfl, h⟩ := qq
          show Gx l E mX4_links _ 43 M40 [some (.ref 50), some (.int p1), some (.int p2), some (.int p3), none] [.int r40]
          exact Gx_iret (by decide +kernel) rfl rfl ⟨_, rfl, h⟩
      · have h := h.2 z
        refine Gx_run (es := eX4_links_24) (P := []) (M' := M8) (L' := [some (.ref 50), some (.int p1), some (.int p2), some (.int p3), none]) (st' := [.int (-4 : Int32), .ref 50]) (pc' := 27) kX4_links_24 rfl trivial rfl ?_
        refine Gx_callV (As := [.int (-4 : Int32)]) (by decide +kernel) ml_4_55 okX4_refused mvX4_refused rfl (by decide) (Nat.le_of_ble_eq_true rfl) rfl rfl rfl (tX4_refused h) (fun rr M27 qq => ?_)
        obtain ⟨r27, rfl, h⟩ := qq
        show Gx l E mX4_links _ 30 M27 [some (.ref 50), some (.int p1), some (.int p2), some (.int p3), none] [.int r27]
        exact Gx_iret (by decide +kernel) rfl rfl ⟨_, rfl, h⟩
    · have h := h.2 z
      refine Gx_mask [true, false, false, false, false] (L' := [some (.ref 50), none, none, none, none]) rfl ?_
      exact tX4_links_14  M8 h
