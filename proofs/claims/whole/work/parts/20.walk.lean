/-! walks: X4_mean, X4_on, X4_one, X4_reached, X4_refuses, X4_row, J0_indexOf_7cf53, J1_charAt_3b067, X0_attach, X0_cloneFor -/
def eX4_mean_0 : List xI := [(.iload_n 1, 1, 0, 0, 0), (.iconst 0, 1, 0, 0, (0)), (.iconst 1, 1, 0, 0, (1))]
theorem kX4_mean_0 : xcode (xmb mX4_mean) (xmo mX4_mean) 0 eX4_mean_0 = true := by decide +kernel
def eX4_mean_16 : List xI := [(.lconst 0, 1, 0, 0, 0), (.lstore_n 2, 1, 0, 0, 0), (.iconst 0, 1, 0, 0, (0)), (.istore 4, 2, 0, 0, 0)]
theorem kX4_mean_16 : xcode (xmb mX4_mean) (xmo mX4_mean) 16 eX4_mean_16 = true := by decide +kernel
def eX4_mean_21 : List xI := [(.iload 4, 2, 0, 0, 0), (.bipush 24, 2, 0, 0, (24))]
theorem kX4_mean_21 : xcode (xmb mX4_mean) (xmo mX4_mean) 21 eX4_mean_21 = true := by decide +kernel
def eX4_mean_44 : List xI := [(.aload_n 0, 1, 0, 0, 0)]
theorem kX4_mean_44 : xcode (xmb mX4_mean) (xmo mX4_mean) 44 eX4_mean_44 = true := by decide +kernel
def eX4_mean_56 : List xI := [(.lload_n 2, 1, 0, 0, 0), (.aload_n 0, 1, 0, 0, 0)]
theorem kX4_mean_56 : xcode (xmb mX4_mean) (xmo mX4_mean) 56 eX4_mean_56 = true := by decide +kernel
def eX4_mean_61 : List xI := [(.i2l, 1, 0, 0, 0), (.iload_n 1, 1, 0, 0, 0)]
theorem kX4_mean_61 : xcode (xmb mX4_mean) (xmo mX4_mean) 61 eX4_mean_61 = true := by decide +kernel
def eX4_mean_51 : List xI := [(.iload_n 1, 1, 0, 0, 0), (.i2l, 1, 0, 0, 0)]
theorem kX4_mean_51 : xcode (xmb mX4_mean) (xmo mX4_mean) 51 eX4_mean_51 = true := by decide +kernel
def eX4_mean_28 : List xI := [(.lload_n 2, 1, 0, 0, 0), (.aload_n 0, 1, 0, 0, 0), (.iload 4, 2, 0, 0, 0)]
theorem kX4_mean_28 : xcode (xmb mX4_mean) (xmo mX4_mean) 28 eX4_mean_28 = true := by decide +kernel
def eX4_mean_35 : List xI := [(.i2l, 1, 0, 0, 0), (.ladd, 1, 0, 0, 0), (.lstore_n 2, 1, 0, 0, 0), (.iinc 4 1, 3, 0, 0, (1))]
theorem kX4_mean_35 : xcode (xmb mX4_mean) (xmo mX4_mean) 35 eX4_mean_35 = true := by decide +kernel
def eX4_mean_9 : List xI := [(.aload_n 0, 1, 0, 0, 0), (.bipush (-2), 2, 0, 0, (-2))]
theorem kX4_mean_9 : xcode (xmb mX4_mean) (xmo mX4_mean) 9 eX4_mean_9 = true := by decide +kernel
def wX4_mean_66 (p1 : Int32) (Q : Int64 → xM → Prop) (M : xM) (s0 : Int64) : Prop :=
    Q s0 M
set_option maxHeartbeats 4000000 in
set_option maxRecDepth 100000 in
theorem tX4_mean_66 {l : Launch} {E : xE} {p1 : Int32} {Q : Int64 → xM → Prop} (M : xM) (s0 : Int64) (h : wX4_mean_66 p1 Q M s0) : Gx l E mX4_mean (xRj Q) 66 M [none, none, none, none, none] [.long s0] := by
  unfold wX4_mean_66 at h
  exact Gx_lret (by decide +kernel) rfl ⟨_, rfl, h⟩
def lX4_mean_21 (p1 : Int32) (Q : Int64 → xM → Prop) : Nat → xM → Int64 → Int32 → Prop
  | 0 => fun _ _ _ => False
  | n + 1 => let k21 := lX4_mean_21 p1 Q n; fun M a2 a4 =>
    ((((24 : Int32) ≤ a4) → (wX4_inodes M (fun r45 M45 => (((¬ r45 = 0) → (wX4_inodes M45 (fun r58 M58 => wX4_lowest M58 a2 r58.toInt64 p1 (fun r63 M63 => wX4_mean_66 p1 Q M63 r63)))) ∧ ((r45 = 0) → (wX4_mean_66 p1 Q M45 p1.toInt64)))))) ∧ ((¬ (24 : Int32) ≤ a4) → (wX4_pointersTo M a4 (fun r32 M32 => k21 M32 (a2 + r32.toInt64) (a4 + (1 : Int32))))))
set_option maxHeartbeats 4000000 in
set_option maxRecDepth 100000 in
theorem tX4_mean_21 {l : Launch} {E : xE} {p1 : Int32} {Q : Int64 → xM → Prop} (n : Nat) : ∀ (M : xM) (a2 : Int64) (a4 : Int32), lX4_mean_21 p1 Q n M a2 a4 → Gx l E mX4_mean (xRj Q) 21 M [some (.ref 50), some (.int p1), some (.long a2), none, some (.int a4)] [] := by
  induction n with
  | zero => intro M a2 a4 h; exact h.elim
  | succ n hk21 =>
      intro M a2 a4 h
      unfold lX4_mean_21 at h
      dsimp only at h
      refine Gx_run (es := eX4_mean_21) (P := []) (M' := M) (L' := [some (.ref 50), some (.int p1), some (.long a2), none, some (.int a4)]) (st' := [.int (24 : Int32), .int a4]) (pc' := 25) kX4_mean_21 rfl trivial rfl ?_
      refine Gx_icmp_ge (off := 19) (tgt := 44) (by decide +kernel) (by decide) (fun z => ?_) (fun z => ?_)
      · have h := h.1 z
        refine Gx_run (es := eX4_mean_44) (P := []) (M' := M) (L' := [some (.ref 50), some (.int p1), some (.long a2), none, some (.int a4)]) (st' := [.ref 50]) (pc' := 45) kX4_mean_44 rfl trivial rfl ?_
        refine Gx_callV (As := []) (by decide +kernel) ml_4_230 okX4_inodes mvX4_inodes rfl (by decide) (Nat.le_of_ble_eq_true rfl) rfl rfl rfl (tX4_inodes h) (fun rr M45 qq => ?_)
        obtain ⟨r45, rfl, h⟩ := qq
        show Gx l E mX4_mean _ 48 M45 [some (.ref 50), some (.int p1), some (.long a2), none, some (.int a4)] [.int r45]
        refine Gx_if_ne (off := 8) (tgt := 56) (by decide +kernel) (by decide) (fun z => ?_) (fun z => ?_)
        · have h := h.1 z
          refine Gx_run (es := eX4_mean_56) (P := []) (M' := M45) (L' := [some (.ref 50), some (.int p1), some (.long a2), none, some (.int a4)]) (st' := [.ref 50, .long a2]) (pc' := 58) kX4_mean_56 rfl trivial rfl ?_
          refine Gx_callV (As := []) (by decide +kernel) ml_4_230 okX4_inodes mvX4_inodes rfl (by decide) (Nat.le_of_ble_eq_true rfl) rfl rfl rfl (tX4_inodes h) (fun rr M58 qq => ?_)
          obtain ⟨r58, rfl, h⟩ := qq
          show Gx l E mX4_mean _ 61 M58 [some (.ref 50), some (.int p1), some (.long a2), none, some (.int a4)] [.int r58, .long a2]
          refine Gx_run (es := eX4_mean_61) (P := []) (M' := M58) (L' := [some (.ref 50), some (.int p1), some (.long a2), none, some (.int a4)]) (st' := [.int p1, .long r58.toInt64, .long a2]) (pc' := 63) kX4_mean_61 rfl trivial rfl ?_
          refine Gx_callS (As := [.long a2, .long r58.toInt64, .int p1]) (by decide +kernel) ml_4_233 okX4_lowest mvX4_lowest rfl (by decide) (Nat.le_of_ble_eq_true rfl) (tX4_lowest h) (fun rr M63 qq => ?_)
          obtain ⟨r63, rfl, h⟩ := qq
          show Gx l E mX4_mean _ 66 M63 [some (.ref 50), some (.int p1), some (.long a2), none, some (.int a4)] [.long r63]
          refine Gx_mask [false, false, false, false, false] (L' := [none, none, none, none, none]) rfl ?_
          exact tX4_mean_66  M63 r63 h
        · have h := h.2 z
          refine Gx_run (es := eX4_mean_51) (P := []) (M' := M45) (L' := [some (.ref 50), some (.int p1), some (.long a2), none, some (.int a4)]) (st' := [.long p1.toInt64]) (pc' := 53) kX4_mean_51 rfl trivial rfl ?_
          refine Gx_goto (off := 13) (tgt := 66) (by decide +kernel) (by decide) ?_
          refine Gx_mask [false, false, false, false, false] (L' := [none, none, none, none, none]) rfl ?_
          exact tX4_mean_66  M45 p1.toInt64 h
      · have h := h.2 z
        refine Gx_run (es := eX4_mean_28) (P := []) (M' := M) (L' := [some (.ref 50), some (.int p1), some (.long a2), none, some (.int a4)]) (st' := [.int a4, .ref 50, .long a2]) (pc' := 32) kX4_mean_28 rfl trivial rfl ?_
        refine Gx_callV (As := [.int a4]) (by decide +kernel) ml_4_51 okX4_pointersTo mvX4_pointersTo rfl (by decide) (Nat.le_of_ble_eq_true rfl) rfl rfl rfl (tX4_pointersTo h) (fun rr M32 qq => ?_)
        obtain ⟨r32, rfl, h⟩ := qq
        show Gx l E mX4_mean _ 35 M32 [some (.ref 50), some (.int p1), some (.long a2), none, some (.int a4)] [.int r32, .long a2]
        refine Gx_run (es := eX4_mean_35) (P := []) (M' := M32) (L' := [some (.ref 50), some (.int p1), some (.long (a2 + r32.toInt64)), none, some (.int (a4 + (1 : Int32)))]) (st' := []) (pc' := 41) kX4_mean_35 rfl trivial rfl ?_
        refine Gx_goto (off := -20) (tgt := 21) (by decide +kernel) (by decide) ?_
        refine Gx_mask [true, true, true, false, true] (L' := [some (.ref 50), some (.int p1), some (.long (a2 + r32.toInt64)), none, some (.int (a4 + (1 : Int32)))]) rfl ?_
        exact hk21 M32 (a2 + r32.toInt64) (a4 + (1 : Int32)) h
def wX4_mean (M : xM) (p1 : Int32) (Q : Int64 → xM → Prop) : Prop :=
    wX4_in M p1 (0 : Int32) (1 : Int32) (fun r3 M3 => (((¬ r3 = 0) → ((∃ n : Nat, lX4_mean_21 p1 Q n M3 (0 : Int64) (0 : Int32)))) ∧ ((r3 = 0) → (wX4_refusedLong M3 (-2 : Int32) (fun r12 M12 => Q r12 M12)))))
set_option maxHeartbeats 4000000 in
set_option maxRecDepth 100000 in
theorem tX4_mean {l : Launch} {E : xE} {M : xM} {p1 : Int32} {Q : Int64 → xM → Prop} (h : wX4_mean M p1 Q) : Ct l E mX4_mean [.ref 50, .int p1] M (xRj Q) := by
  refine Ct_of (by decide +kernel) rfl (Nat.le_of_ble_eq_true rfl) ?_
  unfold wX4_mean at h
  show Gx l E mX4_mean (xRj Q) 0 M [some (.ref 50), some (.int p1), none, none, none] []
  refine Gx_run (es := eX4_mean_0) (P := []) (M' := M) (L' := [some (.ref 50), some (.int p1), none, none, none]) (st' := [.int (1 : Int32), .int (0 : Int32), .int p1]) (pc' := 3) kX4_mean_0 rfl trivial rfl ?_
  refine Gx_callS (As := [.int p1, .int (0 : Int32), .int (1 : Int32)]) (by decide +kernel) ml_4_43 okX4_in mvX4_in rfl (by decide) (Nat.le_of_ble_eq_true rfl) (tX4_in h) (fun rr M3 qq => ?_)
  obtain ⟨r3, rfl, h⟩ := qq
  show Gx l E mX4_mean _ 6 M3 [some (.ref 50), some (.int p1), none, none, none] [.int r3]
  refine Gx_if_ne (off := 10) (tgt := 16) (by decide +kernel) (by decide) (fun z => ?_) (fun z => ?_)
  · have h := h.1 z
    refine Gx_run (es := eX4_mean_16) (P := []) (M' := M3) (L' := [some (.ref 50), some (.int p1), some (.long (0 : Int64)), none, some (.int (0 : Int32))]) (st' := []) (pc' := 21) kX4_mean_16 rfl trivial rfl ?_
    refine Gx_mask [true, true, true, false, true] (L' := [some (.ref 50), some (.int p1), some (.long (0 : Int64)), none, some (.int (0 : Int32))]) rfl ?_
    obtain ⟨n, h⟩ := h
    exact tX4_mean_21  n M3 (0 : Int64) (0 : Int32) h
  · have h := h.2 z
    refine Gx_run (es := eX4_mean_9) (P := []) (M' := M3) (L' := [some (.ref 50), some (.int p1), none, none, none]) (st' := [.int (-2 : Int32), .ref 50]) (pc' := 12) kX4_mean_9 rfl trivial rfl ?_
    refine Gx_callV (As := [.int (-2 : Int32)]) (by decide +kernel) ml_4_226 okX4_refusedLong mvX4_refusedLong rfl (by decide) (Nat.le_of_ble_eq_true rfl) rfl rfl rfl (tX4_refusedLong h) (fun rr M12 qq => ?_)
    obtain ⟨r12, rfl, h⟩ := qq
    show Gx l E mX4_mean _ 15 M12 [some (.ref 50), some (.int p1), none, none, none] [.long r12]
    exact Gx_lret (by decide +kernel) rfl ⟨_, rfl, h⟩
def eX4_on_0 : List xI := [(.aload_n 0, 1, 0, 0, 0), (.getfield 256, 3, 4, 4, 0)]
theorem kX4_on_0 : xcode (xmb mX4_on) (xmo mX4_on) 0 eX4_on_0 = true := by decide +kernel
def eX4_on_14 : List xI := [(.iconst 0, 1, 0, 0, (0)), (.istore_n 1, 1, 0, 0, 0)]
theorem kX4_on_14 : xcode (xmb mX4_on) (xmo mX4_on) 14 eX4_on_14 = true := by decide +kernel
def eX4_on_16 : List xI := [(.iload_n 1, 1, 0, 0, 0), (.sipush 147, 3, 0, 0, (147))]
theorem kX4_on_16 : xcode (xmb mX4_on) (xmo mX4_on) 16 eX4_on_16 = true := by decide +kernel
def eX4_on_41 : List xI := [(.aload_n 0, 1, 0, 0, 0)]
theorem kX4_on_41 : xcode (xmb mX4_on) (xmo mX4_on) 41 eX4_on_41 = true := by decide +kernel
def eX4_on_23 : List xI := [(.aload_n 0, 1, 0, 0, 0), (.getfield 7, 3, 4, 1, 0), (.iload_n 1, 1, 0, 0, 0), (.aload_n 0, 1, 0, 0, 0), (.getfield 13, 3, 4, 2, 0), (.iload_n 1, 1, 0, 0, 0), (.iaload, 1, 0, 0, 0), (.iastore, 1, 0, 0, 0), (.iinc 1 1, 3, 0, 0, (1))]
theorem kX4_on_23 : xcode (xmb mX4_on) (xmo mX4_on) 23 eX4_on_23 = true := by decide +kernel
def eX4_on_7 : List xI := [(.aload_n 0, 1, 0, 0, 0), (.bipush (-3), 2, 0, 0, (-3))]
theorem kX4_on_7 : xcode (xmb mX4_on) (xmo mX4_on) 7 eX4_on_7 = true := by decide +kernel
def lX4_on_16 (Q : Int32 → xM → Prop) : Nat → xM → Int32 → Prop
  | 0 => fun _ _ => False
  | n + 1 => let k16 := lX4_on_16  Q n; fun M a1 =>
    ((((147 : Int32) ≤ a1) → (wX4_inodes M (fun r42 M42 => Q r42 M42))) ∧ ((¬ (147 : Int32) ≤ a1) → ((vp_in a1 147) ∧ k16 (xup M 51 a1.toNatClampNeg (M 52 a1.toNatClampNeg)) (a1 + (1 : Int32)))))
set_option maxHeartbeats 4000000 in
set_option maxRecDepth 100000 in
theorem tX4_on_16 {l : Launch} {E : xE} {Q : Int32 → xM → Prop} (n : Nat) : ∀ (M : xM) (a1 : Int32), lX4_on_16  Q n M a1 → Gx l E mX4_on (xRi Q) 16 M [some (.ref 50), some (.int a1)] [] := by
  induction n with
  | zero => intro M a1 h; exact h.elim
  | succ n hk16 =>
      intro M a1 h
      unfold lX4_on_16 at h
      dsimp only at h
      refine Gx_run (es := eX4_on_16) (P := []) (M' := M) (L' := [some (.ref 50), some (.int a1)]) (st' := [.int (147 : Int32), .int a1]) (pc' := 20) kX4_on_16 rfl trivial rfl ?_
      refine Gx_icmp_ge (off := 21) (tgt := 41) (by decide +kernel) (by decide) (fun z => ?_) (fun z => ?_)
      · have h := h.1 z
        refine Gx_run (es := eX4_on_41) (P := []) (M' := M) (L' := [some (.ref 50), some (.int a1)]) (st' := [.ref 50]) (pc' := 42) kX4_on_41 rfl trivial rfl ?_
        refine Gx_callV (As := []) (by decide +kernel) ml_4_230 okX4_inodes mvX4_inodes rfl (by decide) (Nat.le_of_ble_eq_true rfl) rfl rfl rfl (tX4_inodes h) (fun rr M42 qq => ?_)
        obtain ⟨r42, rfl, h⟩ := qq
        show Gx l E mX4_on _ 45 M42 [some (.ref 50), some (.int a1)] [.int r42]
        exact Gx_iret (by decide +kernel) rfl rfl ⟨_, rfl, h⟩
      · have h := h.2 z
        obtain ⟨g23_0, h⟩ := h
        refine Gx_run (es := eX4_on_23) (P := [xkd 50 = 4, xkd 50 = 4, xkd 52 = 5, vp_in a1 (xln 52), xkd 51 = 5, vp_in a1 (xln 51)]) (M' := (xup M 51 a1.toNatClampNeg (M 52 a1.toNatClampNeg))) (L' := [some (.ref 50), some (.int (a1 + (1 : Int32)))]) (st' := []) (pc' := 38) kX4_on_23 rfl ⟨rfl, rfl, rfl, g23_0, rfl, g23_0, trivial⟩ rfl ?_
        refine Gx_goto (off := -22) (tgt := 16) (by decide +kernel) (by decide) ?_
        refine Gx_mask [true, true] (L' := [some (.ref 50), some (.int (a1 + (1 : Int32)))]) rfl ?_
        exact hk16 (xup M 51 a1.toNatClampNeg (M 52 a1.toNatClampNeg)) (a1 + (1 : Int32)) h
def wX4_on (M : xM) (Q : Int32 → xM → Prop) : Prop :=
    (((¬ (M 50 4) = 0) → ((∃ n : Nat, lX4_on_16  Q n M (0 : Int32)))) ∧ (((M 50 4) = 0) → (wX4_refused M (-3 : Int32) (fun r10 M10 => Q r10 M10))))
set_option maxHeartbeats 4000000 in
set_option maxRecDepth 100000 in
theorem tX4_on {l : Launch} {E : xE} {M : xM} {Q : Int32 → xM → Prop} (h : wX4_on M  Q) : Ct l E mX4_on [.ref 50] M (xRi Q) := by
  refine Ct_of (by decide +kernel) rfl (Nat.le_of_ble_eq_true rfl) ?_
  unfold wX4_on at h
  show Gx l E mX4_on (xRi Q) 0 M [some (.ref 50), none] []
  refine Gx_run (es := eX4_on_0) (P := [xkd 50 = 4]) (M' := M) (L' := [some (.ref 50), none]) (st' := [.int (M 50 4)]) (pc' := 4) kX4_on_0 rfl ⟨rfl, trivial⟩ rfl ?_
  refine Gx_if_ne (off := 10) (tgt := 14) (by decide +kernel) (by decide) (fun z => ?_) (fun z => ?_)
  · have h := h.1 z
    refine Gx_run (es := eX4_on_14) (P := []) (M' := M) (L' := [some (.ref 50), some (.int (0 : Int32))]) (st' := []) (pc' := 16) kX4_on_14 rfl trivial rfl ?_
    refine Gx_mask [true, true] (L' := [some (.ref 50), some (.int (0 : Int32))]) rfl ?_
    obtain ⟨n, h⟩ := h
    exact tX4_on_16  n M (0 : Int32) h
  · have h := h.2 z
    refine Gx_run (es := eX4_on_7) (P := []) (M' := M) (L' := [some (.ref 50), none]) (st' := [.int (-3 : Int32), .ref 50]) (pc' := 10) kX4_on_7 rfl trivial rfl ?_
    refine Gx_callV (As := [.int (-3 : Int32)]) (by decide +kernel) ml_4_55 okX4_refused mvX4_refused rfl (by decide) (Nat.le_of_ble_eq_true rfl) rfl rfl rfl (tX4_refused h) (fun rr M10 qq => ?_)
    obtain ⟨r10, rfl, h⟩ := qq
    show Gx l E mX4_on _ 13 M10 [some (.ref 50), none] [.int r10]
    exact Gx_iret (by decide +kernel) rfl rfl ⟨_, rfl, h⟩
def eX4_one_0 : List xI := [(.aload_n 0, 1, 0, 0, 0)]
theorem kX4_one_0 : xcode (xmb mX4_one) (xmo mX4_one) 0 eX4_one_0 = true := by decide +kernel
def eX4_one_4 : List xI := [(.istore_n 3, 1, 0, 0, 0), (.aload_n 0, 1, 0, 0, 0), (.aload_n 0, 1, 0, 0, 0), (.getfield 68, 3, 4, 9, 0)]
theorem kX4_one_4 : xcode (xmb mX4_one) (xmo mX4_one) 4 eX4_one_4 = true := by decide +kernel
def eX4_one_22 : List xI := [(.iconst 1, 1, 0, 0, (1))]
theorem kX4_one_22 : xcode (xmb mX4_one) (xmo mX4_one) 22 eX4_one_22 = true := by decide +kernel
def eX4_one_27 : List xI := [(.putfield 68, 3, 4, 9, 0), (.aload_n 0, 1, 0, 0, 0), (.dup, 1, 0, 0, 0), (.getfield 61, 3, 4, 8, 0), (.aload_n 0, 1, 0, 0, 0), (.getfield 68, 3, 4, 9, 0)]
theorem kX4_one_27 : xcode (xmb mX4_one) (xmo mX4_one) 27 eX4_one_27 = true := by decide +kernel
def eX4_one_46 : List xI := [(.iconst 1, 1, 0, 0, (1))]
theorem kX4_one_46 : xcode (xmb mX4_one) (xmo mX4_one) 46 eX4_one_46 = true := by decide +kernel
def eX4_one_47 : List xI := [(.iadd, 1, 0, 0, 0), (.putfield 61, 3, 4, 8, 0), (.aload_n 0, 1, 0, 0, 0), (.getfield 68, 3, 4, 9, 0)]
theorem kX4_one_47 : xcode (xmb mX4_one) (xmo mX4_one) 47 eX4_one_47 = true := by decide +kernel
def eX4_one_62 : List xI := [(.iload_n 3, 1, 0, 0, 0), (.iload_n 1, 1, 0, 0, 0), (.isub, 1, 0, 0, 0)]
theorem kX4_one_62 : xcode (xmb mX4_one) (xmo mX4_one) 62 eX4_one_62 = true := by decide +kernel
def eX4_one_58 : List xI := [(.iconst 0, 1, 0, 0, (0))]
theorem kX4_one_58 : xcode (xmb mX4_one) (xmo mX4_one) 58 eX4_one_58 = true := by decide +kernel
def eX4_one_42 : List xI := [(.iconst 0, 1, 0, 0, (0))]
theorem kX4_one_42 : xcode (xmb mX4_one) (xmo mX4_one) 42 eX4_one_42 = true := by decide +kernel
def eX4_one_13 : List xI := [(.iload_n 3, 1, 0, 0, 0), (.iload_n 1, 1, 0, 0, 0), (.iload_n 2, 1, 0, 0, 0)]
theorem kX4_one_13 : xcode (xmb mX4_one) (xmo mX4_one) 13 eX4_one_13 = true := by decide +kernel
def eX4_one_26 : List xI := [(.iconst 0, 1, 0, 0, (0))]
theorem kX4_one_26 : xcode (xmb mX4_one) (xmo mX4_one) 26 eX4_one_26 = true := by decide +kernel
def wX4_one_65 (p1 : Int32) (p2 : Int32) (Q : Int32 → xM → Prop) (M : xM) (s0 : Int32) : Prop :=
    Q s0 M
set_option maxHeartbeats 4000000 in
set_option maxRecDepth 100000 in
theorem tX4_one_65 {l : Launch} {E : xE} {p1 : Int32} {p2 : Int32} {Q : Int32 → xM → Prop} (M : xM) (s0 : Int32) (h : wX4_one_65 p1 p2 Q M s0) : Gx l E mX4_one (xRi Q) 65 M [none, none, none, none] [.int s0] := by
  unfold wX4_one_65 at h
  exact Gx_iret (by decide +kernel) rfl rfl ⟨_, rfl, h⟩
def wX4_one_47 (p1 : Int32) (p2 : Int32) (Q : Int32 → xM → Prop) (M : xM) (a3 : Int32) (s0 : Int32) (s1 : Int32) : Prop :=
    (((((xup M 50 8 (s1 + s0)) 50 9) = 0) → (wX4_one_65 p1 p2 Q (xup M 50 8 (s1 + s0)) (a3 - p1))) ∧ ((¬ ((xup M 50 8 (s1 + s0)) 50 9) = 0) → (wX4_one_65 p1 p2 Q (xup M 50 8 (s1 + s0)) (0 : Int32))))
set_option maxHeartbeats 4000000 in
set_option maxRecDepth 100000 in
theorem tX4_one_47 {l : Launch} {E : xE} {p1 : Int32} {p2 : Int32} {Q : Int32 → xM → Prop} (M : xM) (a3 : Int32) (s0 : Int32) (s1 : Int32) (h : wX4_one_47 p1 p2 Q M a3 s0 s1) : Gx l E mX4_one (xRi Q) 47 M [some (.ref 50), some (.int p1), none, some (.int a3)] [.int s0, .int s1, .ref 50] := by
  unfold wX4_one_47 at h
  refine Gx_run (es := eX4_one_47) (P := [xkd 50 = 4, xkd 50 = 4]) (M' := (xup M 50 8 (s1 + s0))) (L' := [some (.ref 50), some (.int p1), none, some (.int a3)]) (st' := [.int ((xup M 50 8 (s1 + s0)) 50 9)]) (pc' := 55) kX4_one_47 rfl ⟨rfl, rfl, trivial⟩ rfl ?_
  refine Gx_if_eq (off := 7) (tgt := 62) (by decide +kernel) (by decide) (fun z => ?_) (fun z => ?_)
  · have h := h.1 z
    refine Gx_run (es := eX4_one_62) (P := []) (M' := (xup M 50 8 (s1 + s0))) (L' := [some (.ref 50), some (.int p1), none, some (.int a3)]) (st' := [.int (a3 - p1)]) (pc' := 65) kX4_one_62 rfl trivial rfl ?_
    refine Gx_mask [false, false, false, false] (L' := [none, none, none, none]) rfl ?_
    exact tX4_one_65  (xup M 50 8 (s1 + s0)) (a3 - p1) h
  · have h := h.2 z
    refine Gx_run (es := eX4_one_58) (P := []) (M' := (xup M 50 8 (s1 + s0))) (L' := [some (.ref 50), some (.int p1), none, some (.int a3)]) (st' := [.int (0 : Int32)]) (pc' := 59) kX4_one_58 rfl trivial rfl ?_
    refine Gx_goto (off := 6) (tgt := 65) (by decide +kernel) (by decide) ?_
    refine Gx_mask [false, false, false, false] (L' := [none, none, none, none]) rfl ?_
    exact tX4_one_65  (xup M 50 8 (s1 + s0)) (0 : Int32) h
def wX4_one_27 (p1 : Int32) (p2 : Int32) (Q : Int32 → xM → Prop) (M : xM) (a3 : Int32) (s0 : Int32) : Prop :=
    (s0 = 0 ∨ s0 = 1) ∧ (((((xup M 50 9 s0) 50 9) = 0) → (wX4_one_47 p1 p2 Q (xup M 50 9 s0) a3 (1 : Int32) ((xup M 50 9 s0) 50 8))) ∧ ((¬ ((xup M 50 9 s0) 50 9) = 0) → (wX4_one_47 p1 p2 Q (xup M 50 9 s0) a3 (0 : Int32) ((xup M 50 9 s0) 50 8))))
set_option maxHeartbeats 4000000 in
set_option maxRecDepth 100000 in
theorem tX4_one_27 {l : Launch} {E : xE} {p1 : Int32} {p2 : Int32} {Q : Int32 → xM → Prop} (M : xM) (a3 : Int32) (s0 : Int32) (h : wX4_one_27 p1 p2 Q M a3 s0) : Gx l E mX4_one (xRi Q) 27 M [some (.ref 50), some (.int p1), none, some (.int a3)] [.int s0, .ref 50] := by
  unfold wX4_one_27 at h
  obtain ⟨g27_0, h⟩ := h
  refine Gx_run (es := eX4_one_27) (P := [xkd 50 = 4, s0 = 0 ∨ s0 = 1, xkd 50 = 4, xkd 50 = 4]) (M' := (xup M 50 9 s0)) (L' := [some (.ref 50), some (.int p1), none, some (.int a3)]) (st' := [.int ((xup M 50 9 s0) 50 9), .int ((xup M 50 9 s0) 50 8), .ref 50]) (pc' := 39) kX4_one_27 rfl ⟨rfl, g27_0, rfl, rfl, trivial⟩ rfl ?_
  refine Gx_if_eq (off := 7) (tgt := 46) (by decide +kernel) (by decide) (fun z => ?_) (fun z => ?_)
  · have h := h.1 z
    refine Gx_run (es := eX4_one_46) (P := []) (M' := (xup M 50 9 s0)) (L' := [some (.ref 50), some (.int p1), none, some (.int a3)]) (st' := [.int (1 : Int32), .int ((xup M 50 9 s0) 50 8), .ref 50]) (pc' := 47) kX4_one_46 rfl trivial rfl ?_
    refine Gx_mask [true, true, false, true] (L' := [some (.ref 50), some (.int p1), none, some (.int a3)]) rfl ?_
    exact tX4_one_47  (xup M 50 9 s0) a3 (1 : Int32) ((xup M 50 9 s0) 50 8) h
  · have h := h.2 z
    refine Gx_run (es := eX4_one_42) (P := []) (M' := (xup M 50 9 s0)) (L' := [some (.ref 50), some (.int p1), none, some (.int a3)]) (st' := [.int (0 : Int32), .int ((xup M 50 9 s0) 50 8), .ref 50]) (pc' := 43) kX4_one_42 rfl trivial rfl ?_
    refine Gx_goto (off := 4) (tgt := 47) (by decide +kernel) (by decide) ?_
    refine Gx_mask [true, true, false, true] (L' := [some (.ref 50), some (.int p1), none, some (.int a3)]) rfl ?_
    exact tX4_one_47  (xup M 50 9 s0) a3 (0 : Int32) ((xup M 50 9 s0) 50 8) h
def wX4_one_22 (p1 : Int32) (p2 : Int32) (Q : Int32 → xM → Prop) (M : xM) (a3 : Int32) : Prop :=
    wX4_one_27 p1 p2 Q M a3 (1 : Int32)
set_option maxHeartbeats 4000000 in
set_option maxRecDepth 100000 in
theorem tX4_one_22 {l : Launch} {E : xE} {p1 : Int32} {p2 : Int32} {Q : Int32 → xM → Prop} (M : xM) (a3 : Int32) (h : wX4_one_22 p1 p2 Q M a3) : Gx l E mX4_one (xRi Q) 22 M [some (.ref 50), some (.int p1), none, some (.int a3)] [.ref 50] := by
  unfold wX4_one_22 at h
  refine Gx_run (es := eX4_one_22) (P := []) (M' := M) (L' := [some (.ref 50), some (.int p1), none, some (.int a3)]) (st' := [.int (1 : Int32), .ref 50]) (pc' := 23) kX4_one_22 rfl trivial rfl ?_
  refine Gx_goto (off := 4) (tgt := 27) (by decide +kernel) (by decide) ?_
  refine Gx_mask [true, true, false, true] (L' := [some (.ref 50), some (.int p1), none, some (.int a3)]) rfl ?_
  exact tX4_one_27  M a3 (1 : Int32) h
def wX4_one (M : xM) (p1 : Int32) (p2 : Int32) (Q : Int32 → xM → Prop) : Prop :=
    wX4_here M (fun r1 M1 => (((¬ (M1 50 9) = 0) → (wX4_one_22 p1 p2 Q M1 r1)) ∧ (((M1 50 9) = 0) → (wX4_in M1 r1 p1 p2 (fun r16 M16 => (((¬ r16 = 0) → (wX4_one_27 p1 p2 Q M16 r1 (0 : Int32))) ∧ ((r16 = 0) → (wX4_one_22 p1 p2 Q M16 r1))))))))
set_option maxHeartbeats 4000000 in
set_option maxRecDepth 100000 in
theorem tX4_one {l : Launch} {E : xE} {M : xM} {p1 : Int32} {p2 : Int32} {Q : Int32 → xM → Prop} (h : wX4_one M p1 p2 Q) : Ct l E mX4_one [.ref 50, .int p1, .int p2] M (xRi Q) := by
  refine Ct_of (by decide +kernel) rfl (Nat.le_of_ble_eq_true rfl) ?_
  unfold wX4_one at h
  show Gx l E mX4_one (xRi Q) 0 M [some (.ref 50), some (.int p1), some (.int p2), none] []
  refine Gx_run (es := eX4_one_0) (P := []) (M' := M) (L' := [some (.ref 50), some (.int p1), some (.int p2), none]) (st' := [.ref 50]) (pc' := 1) kX4_one_0 rfl trivial rfl ?_
  refine Gx_callV (As := []) (by decide +kernel) ml_4_64 okX4_here mvX4_here rfl (by decide) (Nat.le_of_ble_eq_true rfl) rfl rfl rfl (tX4_here h) (fun rr M1 qq => ?_)
  obtain ⟨r1, rfl, h⟩ := qq
  show Gx l E mX4_one _ 4 M1 [some (.ref 50), some (.int p1), some (.int p2), none] [.int r1]
  refine Gx_run (es := eX4_one_4) (P := [xkd 50 = 4]) (M' := M1) (L' := [some (.ref 50), some (.int p1), some (.int p2), some (.int r1)]) (st' := [.int (M1 50 9), .ref 50]) (pc' := 10) kX4_one_4 rfl ⟨rfl, trivial⟩ rfl ?_
  refine Gx_if_ne (off := 12) (tgt := 22) (by decide +kernel) (by decide) (fun z => ?_) (fun z => ?_)
  · have h := h.1 z
    refine Gx_mask [true, true, false, true] (L' := [some (.ref 50), some (.int p1), none, some (.int r1)]) rfl ?_
    exact tX4_one_22  M1 r1 h
  · have h := h.2 z
    refine Gx_run (es := eX4_one_13) (P := []) (M' := M1) (L' := [some (.ref 50), some (.int p1), some (.int p2), some (.int r1)]) (st' := [.int p2, .int p1, .int r1, .ref 50]) (pc' := 16) kX4_one_13 rfl trivial rfl ?_
    refine Gx_callS (As := [.int r1, .int p1, .int p2]) (by decide +kernel) ml_4_43 okX4_in mvX4_in rfl (by decide) (Nat.le_of_ble_eq_true rfl) (tX4_in h) (fun rr M16 qq => ?_)
    obtain ⟨r16, rfl, h⟩ := qq
    show Gx l E mX4_one _ 19 M16 [some (.ref 50), some (.int p1), some (.int p2), some (.int r1)] [.int r16, .ref 50]
    refine Gx_if_ne (off := 7) (tgt := 26) (by decide +kernel) (by decide) (fun z => ?_) (fun z => ?_)
    · have h := h.1 z
      refine Gx_run (es := eX4_one_26) (P := []) (M' := M16) (L' := [some (.ref 50), some (.int p1), some (.int p2), some (.int r1)]) (st' := [.int (0 : Int32), .ref 50]) (pc' := 27) kX4_one_26 rfl trivial rfl ?_
      refine Gx_mask [true, true, false, true] (L' := [some (.ref 50), some (.int p1), none, some (.int r1)]) rfl ?_
      exact tX4_one_27  M16 r1 (0 : Int32) h
    · have h := h.2 z
      refine Gx_mask [true, true, false, true] (L' := [some (.ref 50), some (.int p1), none, some (.int r1)]) rfl ?_
      exact tX4_one_22  M16 r1 h
def eX4_reached_0 : List xI := [(.iconst 1, 1, 0, 0, (1)), (.iload_n 1, 1, 0, 0, 0), (.ishl, 1, 0, 0, 0), (.istore_n 3, 1, 0, 0, 0), (.iconst 0, 1, 0, 0, (0)), (.istore 4, 2, 0, 0, 0)]
theorem kX4_reached_0 : xcode (xmb mX4_reached) (xmo mX4_reached) 0 eX4_reached_0 = true := by decide +kernel
def eX4_reached_7 : List xI := [(.iload_n 3, 1, 0, 0, 0), (.iload 4, 2, 0, 0, 0)]
theorem kX4_reached_7 : xcode (xmb mX4_reached) (xmo mX4_reached) 7 eX4_reached_7 = true := by decide +kernel
def eX4_reached_122 : List xI := [(.iload_n 3, 1, 0, 0, 0)]
theorem kX4_reached_122 : xcode (xmb mX4_reached) (xmo mX4_reached) 122 eX4_reached_122 = true := by decide +kernel
def eX4_reached_13 : List xI := [(.iload_n 3, 1, 0, 0, 0), (.istore 4, 2, 0, 0, 0), (.iconst 0, 1, 0, 0, (0)), (.istore 5, 2, 0, 0, 0)]
theorem kX4_reached_13 : xcode (xmb mX4_reached) (xmo mX4_reached) 13 eX4_reached_13 = true := by decide +kernel
def eX4_reached_19 : List xI := [(.iload 5, 2, 0, 0, 0), (.bipush 60, 2, 0, 0, (60))]
theorem kX4_reached_19 : xcode (xmb mX4_reached) (xmo mX4_reached) 19 eX4_reached_19 = true := by decide +kernel
def eX4_reached_26 : List xI := [(.iload_n 3, 1, 0, 0, 0), (.iload 5, 2, 0, 0, 0), (.bipush 6, 2, 0, 0, (6)), (.idiv, 1, 0, 0, 0), (.ishr, 1, 0, 0, 0), (.iconst 1, 1, 0, 0, (1)), (.iand, 1, 0, 0, 0), (.iconst 1, 1, 0, 0, (1))]
theorem kX4_reached_26 : xcode (xmb mX4_reached) (xmo mX4_reached) 26 eX4_reached_26 = true := by decide +kernel
def eX4_reached_57 : List xI := [(.iconst 0, 1, 0, 0, (0))]
theorem kX4_reached_57 : xcode (xmb mX4_reached) (xmo mX4_reached) 57 eX4_reached_57 = true := by decide +kernel
def eX4_reached_58 : List xI := [(.istore 6, 2, 0, 0, 0), (.iload 6, 2, 0, 0, 0)]
theorem kX4_reached_58 : xcode (xmb mX4_reached) (xmo mX4_reached) 58 eX4_reached_58 = true := by decide +kernel
def eX4_reached_81 : List xI := [(.iconst 0, 1, 0, 0, (0))]
theorem kX4_reached_81 : xcode (xmb mX4_reached) (xmo mX4_reached) 81 eX4_reached_81 = true := by decide +kernel
def eX4_reached_82 : List xI := [(.istore 7, 2, 0, 0, 0), (.iload_n 3, 1, 0, 0, 0), (.iload 6, 2, 0, 0, 0)]
theorem kX4_reached_82 : xcode (xmb mX4_reached) (xmo mX4_reached) 82 eX4_reached_82 = true := by decide +kernel
def eX4_reached_110 : List xI := [(.iconst 0, 1, 0, 0, (0))]
theorem kX4_reached_110 : xcode (xmb mX4_reached) (xmo mX4_reached) 110 eX4_reached_110 = true := by decide +kernel
def eX4_reached_111 : List xI := [(.ior, 1, 0, 0, 0), (.istore_n 3, 1, 0, 0, 0), (.iinc 5 1, 3, 0, 0, (1))]
theorem kX4_reached_111 : xcode (xmb mX4_reached) (xmo mX4_reached) 111 eX4_reached_111 = true := by decide +kernel
def eX4_reached_90 : List xI := [(.iload_n 2, 1, 0, 0, 0)]
theorem kX4_reached_90 : xcode (xmb mX4_reached) (xmo mX4_reached) 90 eX4_reached_90 = true := by decide +kernel
def eX4_reached_103 : List xI := [(.iconst 1, 1, 0, 0, (1)), (.iload 7, 2, 0, 0, 0), (.ishl, 1, 0, 0, 0)]
theorem kX4_reached_103 : xcode (xmb mX4_reached) (xmo mX4_reached) 103 eX4_reached_103 = true := by decide +kernel
def eX4_reached_94 : List xI := [(.aload_n 0, 1, 0, 0, 0), (.iload 7, 2, 0, 0, 0)]
theorem kX4_reached_94 : xcode (xmb mX4_reached) (xmo mX4_reached) 94 eX4_reached_94 = true := by decide +kernel
def eX4_reached_65 : List xI := [(.aload_n 0, 1, 0, 0, 0), (.getfield 7, 3, 4, 1, 0), (.bipush 60, 2, 0, 0, (60)), (.iload 5, 2, 0, 0, 0), (.iadd, 1, 0, 0, 0), (.iaload, 1, 0, 0, 0), (.bipush 26, 2, 0, 0, (26)), (.idiv, 1, 0, 0, 0)]
theorem kX4_reached_65 : xcode (xmb mX4_reached) (xmo mX4_reached) 65 eX4_reached_65 = true := by decide +kernel
def eX4_reached_39 : List xI := [(.aload_n 0, 1, 0, 0, 0), (.getfield 7, 3, 4, 1, 0), (.bipush 60, 2, 0, 0, (60)), (.iload 5, 2, 0, 0, 0), (.iadd, 1, 0, 0, 0), (.iaload, 1, 0, 0, 0), (.iconst (-1), 1, 0, 0, (-1))]
theorem kX4_reached_39 : xcode (xmb mX4_reached) (xmo mX4_reached) 39 eX4_reached_39 = true := by decide +kernel
def eX4_reached_53 : List xI := [(.iconst 1, 1, 0, 0, (1))]
theorem kX4_reached_53 : xcode (xmb mX4_reached) (xmo mX4_reached) 53 eX4_reached_53 = true := by decide +kernel
def wX4_reached_111 (p1 : Int32) (p2 : Int32) (Q : Int32 → xM → Prop) (k7 : xM → Int32 → Int32 → Prop) (k19 : xM → Int32 → Int32 → Int32 → Prop) (M : xM) (a4 : Int32) (a5 : Int32) (s0 : Int32) (s1 : Int32) : Prop :=
    k19 M (s1 ||| s0) a4 (a5 + (1 : Int32))
set_option maxHeartbeats 4000000 in
set_option maxRecDepth 100000 in
theorem tX4_reached_111 {l : Launch} {E : xE} {p1 : Int32} {p2 : Int32} {Q : Int32 → xM → Prop} {k7 : xM → Int32 → Int32 → Prop} {k19 : xM → Int32 → Int32 → Int32 → Prop} (hk7 : ∀ (M : xM) (a3 : Int32) (a4 : Int32), k7 M a3 a4 → Gx l E mX4_reached (xRi Q) 7 M [some (.ref 50), none, some (.int p2), some (.int a3), some (.int a4), none, none, none] []) (hk19 : ∀ (M : xM) (a3 : Int32) (a4 : Int32) (a5 : Int32), k19 M a3 a4 a5 → Gx l E mX4_reached (xRi Q) 19 M [some (.ref 50), none, some (.int p2), some (.int a3), some (.int a4), some (.int a5), none, none] []) (M : xM) (a4 : Int32) (a5 : Int32) (s0 : Int32) (s1 : Int32) (h : wX4_reached_111 p1 p2 Q k7 k19 M a4 a5 s0 s1) : Gx l E mX4_reached (xRi Q) 111 M [some (.ref 50), none, some (.int p2), none, some (.int a4), some (.int a5), none, none] [.int s0, .int s1] := by
  unfold wX4_reached_111 at h
  refine Gx_run (es := eX4_reached_111) (P := []) (M' := M) (L' := [some (.ref 50), none, some (.int p2), some (.int (s1 ||| s0)), some (.int a4), some (.int (a5 + (1 : Int32))), none, none]) (st' := []) (pc' := 116) kX4_reached_111 rfl trivial rfl ?_
  refine Gx_goto (off := -97) (tgt := 19) (by decide +kernel) (by decide) ?_
  refine Gx_mask [true, false, true, true, true, true, false, false] (L' := [some (.ref 50), none, some (.int p2), some (.int (s1 ||| s0)), some (.int a4), some (.int (a5 + (1 : Int32))), none, none]) rfl ?_
  exact hk19 M (s1 ||| s0) a4 (a5 + (1 : Int32)) h
def wX4_reached_110 (p1 : Int32) (p2 : Int32) (Q : Int32 → xM → Prop) (k7 : xM → Int32 → Int32 → Prop) (k19 : xM → Int32 → Int32 → Int32 → Prop) (M : xM) (a4 : Int32) (a5 : Int32) (s0 : Int32) : Prop :=
    wX4_reached_111 p1 p2 Q k7 k19 M a4 a5 (0 : Int32) s0
set_option maxHeartbeats 4000000 in
set_option maxRecDepth 100000 in
theorem tX4_reached_110 {l : Launch} {E : xE} {p1 : Int32} {p2 : Int32} {Q : Int32 → xM → Prop} {k7 : xM → Int32 → Int32 → Prop} {k19 : xM → Int32 → Int32 → Int32 → Prop} (hk7 : ∀ (M : xM) (a3 : Int32) (a4 : Int32), k7 M a3 a4 → Gx l E mX4_reached (xRi Q) 7 M [some (.ref 50), none, some (.int p2), some (.int a3), some (.int a4), none, none, none] []) (hk19 : ∀ (M : xM) (a3 : Int32) (a4 : Int32) (a5 : Int32), k19 M a3 a4 a5 → Gx l E mX4_reached (xRi Q) 19 M [some (.ref 50), none, some (.int p2), some (.int a3), some (.int a4), some (.int a5), none, none] []) (M : xM) (a4 : Int32) (a5 : Int32) (s0 : Int32) (h : wX4_reached_110 p1 p2 Q k7 k19 M a4 a5 s0) : Gx l E mX4_reached (xRi Q) 110 M [some (.ref 50), none, some (.int p2), none, some (.int a4), some (.int a5), none, none] [.int s0] := by
  unfold wX4_reached_110 at h
  refine Gx_run (es := eX4_reached_110) (P := []) (M' := M) (L' := [some (.ref 50), none, some (.int p2), none, some (.int a4), some (.int a5), none, none]) (st' := [.int (0 : Int32), .int s0]) (pc' := 111) kX4_reached_110 rfl trivial rfl ?_
  refine Gx_mask [true, false, true, false, true, true, false, false] (L' := [some (.ref 50), none, some (.int p2), none, some (.int a4), some (.int a5), none, none]) rfl ?_
  exact tX4_reached_111  hk7 hk19 M a4 a5 (0 : Int32) s0 h
def wX4_reached_103 (p1 : Int32) (p2 : Int32) (Q : Int32 → xM → Prop) (k7 : xM → Int32 → Int32 → Prop) (k19 : xM → Int32 → Int32 → Int32 → Prop) (M : xM) (a4 : Int32) (a5 : Int32) (a7 : Int32) (s0 : Int32) : Prop :=
    wX4_reached_111 p1 p2 Q k7 k19 M a4 a5 ((1 : Int32) <<< (a7 &&& 31)) s0
set_option maxHeartbeats 4000000 in
set_option maxRecDepth 100000 in
theorem tX4_reached_103 {l : Launch} {E : xE} {p1 : Int32} {p2 : Int32} {Q : Int32 → xM → Prop} {k7 : xM → Int32 → Int32 → Prop} {k19 : xM → Int32 → Int32 → Int32 → Prop} (hk7 : ∀ (M : xM) (a3 : Int32) (a4 : Int32), k7 M a3 a4 → Gx l E mX4_reached (xRi Q) 7 M [some (.ref 50), none, some (.int p2), some (.int a3), some (.int a4), none, none, none] []) (hk19 : ∀ (M : xM) (a3 : Int32) (a4 : Int32) (a5 : Int32), k19 M a3 a4 a5 → Gx l E mX4_reached (xRi Q) 19 M [some (.ref 50), none, some (.int p2), some (.int a3), some (.int a4), some (.int a5), none, none] []) (M : xM) (a4 : Int32) (a5 : Int32) (a7 : Int32) (s0 : Int32) (h : wX4_reached_103 p1 p2 Q k7 k19 M a4 a5 a7 s0) : Gx l E mX4_reached (xRi Q) 103 M [some (.ref 50), none, some (.int p2), none, some (.int a4), some (.int a5), none, some (.int a7)] [.int s0] := by
  unfold wX4_reached_103 at h
  refine Gx_run (es := eX4_reached_103) (P := []) (M' := M) (L' := [some (.ref 50), none, some (.int p2), none, some (.int a4), some (.int a5), none, some (.int a7)]) (st' := [.int ((1 : Int32) <<< (a7 &&& 31)), .int s0]) (pc' := 107) kX4_reached_103 rfl trivial rfl ?_
  refine Gx_goto (off := 4) (tgt := 111) (by decide +kernel) (by decide) ?_
  refine Gx_mask [true, false, true, false, true, true, false, false] (L' := [some (.ref 50), none, some (.int p2), none, some (.int a4), some (.int a5), none, none]) rfl ?_
  exact tX4_reached_111  hk7 hk19 M a4 a5 ((1 : Int32) <<< (a7 &&& 31)) s0 h
def wX4_reached_82 (p1 : Int32) (p2 : Int32) (Q : Int32 → xM → Prop) (k7 : xM → Int32 → Int32 → Prop) (k19 : xM → Int32 → Int32 → Int32 → Prop) (M : xM) (a3 : Int32) (a4 : Int32) (a5 : Int32) (a6 : Int32) (s0 : Int32) : Prop :=
    (((a6 = 0) → (wX4_reached_110 p1 p2 Q k7 k19 M a4 a5 a3)) ∧ ((¬ a6 = 0) → ((((p2 = 0) → (wX4_reached_103 p1 p2 Q k7 k19 M a4 a5 s0 a3)) ∧ ((¬ p2 = 0) → (wX4_isDirectory M s0 (fun r97 M97 => (((r97 = 0) → (wX4_reached_110 p1 p2 Q k7 k19 M97 a4 a5 a3)) ∧ ((¬ r97 = 0) → (wX4_reached_103 p1 p2 Q k7 k19 M97 a4 a5 s0 a3))))))))))
set_option maxHeartbeats 4000000 in
set_option maxRecDepth 100000 in
theorem tX4_reached_82 {l : Launch} {E : xE} {p1 : Int32} {p2 : Int32} {Q : Int32 → xM → Prop} {k7 : xM → Int32 → Int32 → Prop} {k19 : xM → Int32 → Int32 → Int32 → Prop} (hk7 : ∀ (M : xM) (a3 : Int32) (a4 : Int32), k7 M a3 a4 → Gx l E mX4_reached (xRi Q) 7 M [some (.ref 50), none, some (.int p2), some (.int a3), some (.int a4), none, none, none] []) (hk19 : ∀ (M : xM) (a3 : Int32) (a4 : Int32) (a5 : Int32), k19 M a3 a4 a5 → Gx l E mX4_reached (xRi Q) 19 M [some (.ref 50), none, some (.int p2), some (.int a3), some (.int a4), some (.int a5), none, none] []) (M : xM) (a3 : Int32) (a4 : Int32) (a5 : Int32) (a6 : Int32) (s0 : Int32) (h : wX4_reached_82 p1 p2 Q k7 k19 M a3 a4 a5 a6 s0) : Gx l E mX4_reached (xRi Q) 82 M [some (.ref 50), none, some (.int p2), some (.int a3), some (.int a4), some (.int a5), some (.int a6), none] [.int s0] := by
  unfold wX4_reached_82 at h
  refine Gx_run (es := eX4_reached_82) (P := []) (M' := M) (L' := [some (.ref 50), none, some (.int p2), some (.int a3), some (.int a4), some (.int a5), some (.int a6), some (.int s0)]) (st' := [.int a6, .int a3]) (pc' := 87) kX4_reached_82 rfl trivial rfl ?_
  refine Gx_if_eq (off := 23) (tgt := 110) (by decide +kernel) (by decide) (fun z => ?_) (fun z => ?_)
  · have h := h.1 z
    refine Gx_mask [true, false, true, false, true, true, false, false] (L' := [some (.ref 50), none, some (.int p2), none, some (.int a4), some (.int a5), none, none]) rfl ?_
    exact tX4_reached_110  hk7 hk19 M a4 a5 a3 h
  · have h := h.2 z
    refine Gx_run (es := eX4_reached_90) (P := []) (M' := M) (L' := [some (.ref 50), none, some (.int p2), some (.int a3), some (.int a4), some (.int a5), some (.int a6), some (.int s0)]) (st' := [.int p2, .int a3]) (pc' := 91) kX4_reached_90 rfl trivial rfl ?_
    refine Gx_if_eq (off := 12) (tgt := 103) (by decide +kernel) (by decide) (fun z => ?_) (fun z => ?_)
    · have h := h.1 z
      refine Gx_mask [true, false, true, false, true, true, false, true] (L' := [some (.ref 50), none, some (.int p2), none, some (.int a4), some (.int a5), none, some (.int s0)]) rfl ?_
      exact tX4_reached_103  hk7 hk19 M a4 a5 s0 a3 h
    · have h := h.2 z
      refine Gx_run (es := eX4_reached_94) (P := []) (M' := M) (L' := [some (.ref 50), none, some (.int p2), some (.int a3), some (.int a4), some (.int a5), some (.int a6), some (.int s0)]) (st' := [.int s0, .ref 50, .int a3]) (pc' := 97) kX4_reached_94 rfl trivial rfl ?_
      refine Gx_callV (As := [.int s0]) (by decide +kernel) ml_4_152 okX4_isDirectory mvX4_isDirectory rfl (by decide) (Nat.le_of_ble_eq_true rfl) rfl rfl rfl (tX4_isDirectory h) (fun rr M97 qq => ?_)
      obtain ⟨r97, rfl, h⟩ := qq
      show Gx l E mX4_reached _ 100 M97 [some (.ref 50), none, some (.int p2), some (.int a3), some (.int a4), some (.int a5), some (.int a6), some (.int s0)] [.int r97, .int a3]
      refine Gx_if_eq (off := 10) (tgt := 110) (by decide +kernel) (by decide) (fun z => ?_) (fun z => ?_)
      · have h := h.1 z
        refine Gx_mask [true, false, true, false, true, true, false, false] (L' := [some (.ref 50), none, some (.int p2), none, some (.int a4), some (.int a5), none, none]) rfl ?_
        exact tX4_reached_110  hk7 hk19 M97 a4 a5 a3 h
      · have h := h.2 z
        refine Gx_mask [true, false, true, false, true, true, false, true] (L' := [some (.ref 50), none, some (.int p2), none, some (.int a4), some (.int a5), none, some (.int s0)]) rfl ?_
        exact tX4_reached_103  hk7 hk19 M97 a4 a5 s0 a3 h
def wX4_reached_58 (p1 : Int32) (p2 : Int32) (Q : Int32 → xM → Prop) (k7 : xM → Int32 → Int32 → Prop) (k19 : xM → Int32 → Int32 → Int32 → Prop) (M : xM) (a3 : Int32) (a4 : Int32) (a5 : Int32) (s0 : Int32) : Prop :=
    (((s0 = 0) → (wX4_reached_82 p1 p2 Q k7 k19 M a3 a4 a5 s0 (0 : Int32))) ∧ ((¬ s0 = 0) → ((vp_in ((60 : Int32) + a5) 147) ∧ wX4_reached_82 p1 p2 Q k7 k19 M a3 a4 a5 s0 ((M 51 ((60 : Int32) + a5).toNatClampNeg) / (26 : Int32)))))
set_option maxHeartbeats 4000000 in
set_option maxRecDepth 100000 in
theorem tX4_reached_58 {l : Launch} {E : xE} {p1 : Int32} {p2 : Int32} {Q : Int32 → xM → Prop} {k7 : xM → Int32 → Int32 → Prop} {k19 : xM → Int32 → Int32 → Int32 → Prop} (hk7 : ∀ (M : xM) (a3 : Int32) (a4 : Int32), k7 M a3 a4 → Gx l E mX4_reached (xRi Q) 7 M [some (.ref 50), none, some (.int p2), some (.int a3), some (.int a4), none, none, none] []) (hk19 : ∀ (M : xM) (a3 : Int32) (a4 : Int32) (a5 : Int32), k19 M a3 a4 a5 → Gx l E mX4_reached (xRi Q) 19 M [some (.ref 50), none, some (.int p2), some (.int a3), some (.int a4), some (.int a5), none, none] []) (M : xM) (a3 : Int32) (a4 : Int32) (a5 : Int32) (s0 : Int32) (h : wX4_reached_58 p1 p2 Q k7 k19 M a3 a4 a5 s0) : Gx l E mX4_reached (xRi Q) 58 M [some (.ref 50), none, some (.int p2), some (.int a3), some (.int a4), some (.int a5), none, none] [.int s0] := by
  unfold wX4_reached_58 at h
  refine Gx_run (es := eX4_reached_58) (P := []) (M' := M) (L' := [some (.ref 50), none, some (.int p2), some (.int a3), some (.int a4), some (.int a5), some (.int s0), none]) (st' := [.int s0]) (pc' := 62) kX4_reached_58 rfl trivial rfl ?_
  refine Gx_if_eq (off := 19) (tgt := 81) (by decide +kernel) (by decide) (fun z => ?_) (fun z => ?_)
  · have h := h.1 z
    refine Gx_run (es := eX4_reached_81) (P := []) (M' := M) (L' := [some (.ref 50), none, some (.int p2), some (.int a3), some (.int a4), some (.int a5), some (.int s0), none]) (st' := [.int (0 : Int32)]) (pc' := 82) kX4_reached_81 rfl trivial rfl ?_
    refine Gx_mask [true, false, true, true, true, true, true, false] (L' := [some (.ref 50), none, some (.int p2), some (.int a3), some (.int a4), some (.int a5), some (.int s0), none]) rfl ?_
    exact tX4_reached_82  hk7 hk19 M a3 a4 a5 s0 (0 : Int32) h
  · have h := h.2 z
    obtain ⟨g65_0, h⟩ := h
    refine Gx_run (es := eX4_reached_65) (P := [xkd 50 = 4, xkd 51 = 5, vp_in ((60 : Int32) + a5) (xln 51), ¬ (26 : Int32) = 0]) (M' := M) (L' := [some (.ref 50), none, some (.int p2), some (.int a3), some (.int a4), some (.int a5), some (.int s0), none]) (st' := [.int ((M 51 ((60 : Int32) + a5).toNatClampNeg) / (26 : Int32))]) (pc' := 78) kX4_reached_65 rfl ⟨rfl, rfl, g65_0, (by decide), trivial⟩ rfl ?_
    refine Gx_goto (off := 4) (tgt := 82) (by decide +kernel) (by decide) ?_
    refine Gx_mask [true, false, true, true, true, true, true, false] (L' := [some (.ref 50), none, some (.int p2), some (.int a3), some (.int a4), some (.int a5), some (.int s0), none]) rfl ?_
    exact tX4_reached_82  hk7 hk19 M a3 a4 a5 s0 ((M 51 ((60 : Int32) + a5).toNatClampNeg) / (26 : Int32)) h
def wX4_reached_57 (p1 : Int32) (p2 : Int32) (Q : Int32 → xM → Prop) (k7 : xM → Int32 → Int32 → Prop) (k19 : xM → Int32 → Int32 → Int32 → Prop) (M : xM) (a3 : Int32) (a4 : Int32) (a5 : Int32) : Prop :=
    wX4_reached_58 p1 p2 Q k7 k19 M a3 a4 a5 (0 : Int32)
set_option maxHeartbeats 4000000 in
set_option maxRecDepth 100000 in
theorem tX4_reached_57 {l : Launch} {E : xE} {p1 : Int32} {p2 : Int32} {Q : Int32 → xM → Prop} {k7 : xM → Int32 → Int32 → Prop} {k19 : xM → Int32 → Int32 → Int32 → Prop} (hk7 : ∀ (M : xM) (a3 : Int32) (a4 : Int32), k7 M a3 a4 → Gx l E mX4_reached (xRi Q) 7 M [some (.ref 50), none, some (.int p2), some (.int a3), some (.int a4), none, none, none] []) (hk19 : ∀ (M : xM) (a3 : Int32) (a4 : Int32) (a5 : Int32), k19 M a3 a4 a5 → Gx l E mX4_reached (xRi Q) 19 M [some (.ref 50), none, some (.int p2), some (.int a3), some (.int a4), some (.int a5), none, none] []) (M : xM) (a3 : Int32) (a4 : Int32) (a5 : Int32) (h : wX4_reached_57 p1 p2 Q k7 k19 M a3 a4 a5) : Gx l E mX4_reached (xRi Q) 57 M [some (.ref 50), none, some (.int p2), some (.int a3), some (.int a4), some (.int a5), none, none] [] := by
  unfold wX4_reached_57 at h
  refine Gx_run (es := eX4_reached_57) (P := []) (M' := M) (L' := [some (.ref 50), none, some (.int p2), some (.int a3), some (.int a4), some (.int a5), none, none]) (st' := [.int (0 : Int32)]) (pc' := 58) kX4_reached_57 rfl trivial rfl ?_
  refine Gx_mask [true, false, true, true, true, true, false, false] (L' := [some (.ref 50), none, some (.int p2), some (.int a3), some (.int a4), some (.int a5), none, none]) rfl ?_
  exact tX4_reached_58  hk7 hk19 M a3 a4 a5 (0 : Int32) h
def lX4_reached_19 (p1 : Int32) (p2 : Int32) (Q : Int32 → xM → Prop) (k7 : xM → Int32 → Int32 → Prop) : Nat → xM → Int32 → Int32 → Int32 → Prop
  | 0 => fun _ _ _ _ => False
  | n + 1 => let k19 := lX4_reached_19 p1 p2 Q k7 n; fun M a3 a4 a5 =>
    ((((60 : Int32) ≤ a5) → (k7 M a3 a4)) ∧ ((¬ (60 : Int32) ≤ a5) → ((((¬ ((a3 >>> ((a5 / (6 : Int32)) &&& 31)) &&& (1 : Int32)) = (1 : Int32)) → (wX4_reached_57 p1 p2 Q k7 k19 M a3 a4 a5)) ∧ ((((a3 >>> ((a5 / (6 : Int32)) &&& 31)) &&& (1 : Int32)) = (1 : Int32)) → ((vp_in ((60 : Int32) + a5) 147) ∧ ((((M 51 ((60 : Int32) + a5).toNatClampNeg) = (-1 : Int32)) → (wX4_reached_57 p1 p2 Q k7 k19 M a3 a4 a5)) ∧ ((¬ (M 51 ((60 : Int32) + a5).toNatClampNeg) = (-1 : Int32)) → (wX4_reached_58 p1 p2 Q k7 k19 M a3 a4 a5 (1 : Int32))))))))))
set_option maxHeartbeats 4000000 in
set_option maxRecDepth 100000 in
theorem tX4_reached_19 {l : Launch} {E : xE} {p1 : Int32} {p2 : Int32} {Q : Int32 → xM → Prop} {k7 : xM → Int32 → Int32 → Prop} (hk7 : ∀ (M : xM) (a3 : Int32) (a4 : Int32), k7 M a3 a4 → Gx l E mX4_reached (xRi Q) 7 M [some (.ref 50), none, some (.int p2), some (.int a3), some (.int a4), none, none, none] []) (n : Nat) : ∀ (M : xM) (a3 : Int32) (a4 : Int32) (a5 : Int32), lX4_reached_19 p1 p2 Q k7 n M a3 a4 a5 → Gx l E mX4_reached (xRi Q) 19 M [some (.ref 50), none, some (.int p2), some (.int a3), some (.int a4), some (.int a5), none, none] [] := by
  induction n with
  | zero => intro M a3 a4 a5 h; exact h.elim
  | succ n hk19 =>
      intro M a3 a4 a5 h
      unfold lX4_reached_19 at h
      dsimp only at h
      refine Gx_run (es := eX4_reached_19) (P := []) (M' := M) (L' := [some (.ref 50), none, some (.int p2), some (.int a3), some (.int a4), some (.int a5), none, none]) (st' := [.int (60 : Int32), .int a5]) (pc' := 23) kX4_reached_19 rfl trivial rfl ?_
      refine Gx_icmp_ge (off := 96) (tgt := 119) (by decide +kernel) (by decide) (fun z => ?_) (fun z => ?_)
      · have h := h.1 z
        refine Gx_goto (off := -112) (tgt := 7) (by decide +kernel) (by decide) ?_
        refine Gx_mask [true, false, true, true, true, false, false, false] (L' := [some (.ref 50), none, some (.int p2), some (.int a3), some (.int a4), none, none, none]) rfl ?_
        exact hk7 M a3 a4 h
      · have h := h.2 z
        refine Gx_run (es := eX4_reached_26) (P := [¬ (6 : Int32) = 0]) (M' := M) (L' := [some (.ref 50), none, some (.int p2), some (.int a3), some (.int a4), some (.int a5), none, none]) (st' := [.int (1 : Int32), .int ((a3 >>> ((a5 / (6 : Int32)) &&& 31)) &&& (1 : Int32))]) (pc' := 36) kX4_reached_26 rfl ⟨(by decide), trivial⟩ rfl ?_
        refine Gx_icmp_ne (off := 21) (tgt := 57) (by decide +kernel) (by decide) (fun z => ?_) (fun z => ?_)
        · have h := h.1 z
          refine Gx_mask [true, false, true, true, true, true, false, false] (L' := [some (.ref 50), none, some (.int p2), some (.int a3), some (.int a4), some (.int a5), none, none]) rfl ?_
          exact tX4_reached_57  hk7 hk19 M a3 a4 a5 h
        · have h := h.2 z
          obtain ⟨g39_0, h⟩ := h
          refine Gx_run (es := eX4_reached_39) (P := [xkd 50 = 4, xkd 51 = 5, vp_in ((60 : Int32) + a5) (xln 51)]) (M' := M) (L' := [some (.ref 50), none, some (.int p2), some (.int a3), some (.int a4), some (.int a5), none, none]) (st' := [.int (-1 : Int32), .int (M 51 ((60 : Int32) + a5).toNatClampNeg)]) (pc' := 50) kX4_reached_39 rfl ⟨rfl, rfl, g39_0, trivial⟩ rfl ?_
          refine Gx_icmp_eq (off := 7) (tgt := 57) (by decide +kernel) (by decide) (fun z => ?_) (fun z => ?_)
          · have h := h.1 z
            refine Gx_mask [true, false, true, true, true, true, false, false] (L' := [some (.ref 50), none, some (.int p2), some (.int a3), some (.int a4), some (.int a5), none, none]) rfl ?_
            exact tX4_reached_57  hk7 hk19 M a3 a4 a5 h
          · have h := h.2 z
            refine Gx_run (es := eX4_reached_53) (P := []) (M' := M) (L' := [some (.ref 50), none, some (.int p2), some (.int a3), some (.int a4), some (.int a5), none, none]) (st' := [.int (1 : Int32)]) (pc' := 54) kX4_reached_53 rfl trivial rfl ?_
            refine Gx_goto (off := 4) (tgt := 58) (by decide +kernel) (by decide) ?_
            refine Gx_mask [true, false, true, true, true, true, false, false] (L' := [some (.ref 50), none, some (.int p2), some (.int a3), some (.int a4), some (.int a5), none, none]) rfl ?_
            exact tX4_reached_58  hk7 hk19 M a3 a4 a5 (1 : Int32) h
def lX4_reached_7 (p1 : Int32) (p2 : Int32) (Q : Int32 → xM → Prop) : Nat → xM → Int32 → Int32 → Prop
  | 0 => fun _ _ _ => False
  | n + 1 => let k7 := lX4_reached_7 p1 p2 Q n; fun M a3 a4 =>
    (((a3 = a4) → (Q a3 M)) ∧ ((¬ a3 = a4) → ((∃ n : Nat, lX4_reached_19 p1 p2 Q k7 n M a3 a3 (0 : Int32)))))
set_option maxHeartbeats 4000000 in
set_option maxRecDepth 100000 in
theorem tX4_reached_7 {l : Launch} {E : xE} {p1 : Int32} {p2 : Int32} {Q : Int32 → xM → Prop} (n : Nat) : ∀ (M : xM) (a3 : Int32) (a4 : Int32), lX4_reached_7 p1 p2 Q n M a3 a4 → Gx l E mX4_reached (xRi Q) 7 M [some (.ref 50), none, some (.int p2), some (.int a3), some (.int a4), none, none, none] [] := by
  induction n with
  | zero => intro M a3 a4 h; exact h.elim
  | succ n hk7 =>
      intro M a3 a4 h
      unfold lX4_reached_7 at h
      dsimp only at h
      refine Gx_run (es := eX4_reached_7) (P := []) (M' := M) (L' := [some (.ref 50), none, some (.int p2), some (.int a3), some (.int a4), none, none, none]) (st' := [.int a4, .int a3]) (pc' := 10) kX4_reached_7 rfl trivial rfl ?_
      refine Gx_icmp_eq (off := 112) (tgt := 122) (by decide +kernel) (by decide) (fun z => ?_) (fun z => ?_)
      · have h := h.1 z
        refine Gx_run (es := eX4_reached_122) (P := []) (M' := M) (L' := [some (.ref 50), none, some (.int p2), some (.int a3), some (.int a4), none, none, none]) (st' := [.int a3]) (pc' := 123) kX4_reached_122 rfl trivial rfl ?_
        exact Gx_iret (by decide +kernel) rfl rfl ⟨_, rfl, h⟩
      · have h := h.2 z
        refine Gx_run (es := eX4_reached_13) (P := []) (M' := M) (L' := [some (.ref 50), none, some (.int p2), some (.int a3), some (.int a3), some (.int (0 : Int32)), none, none]) (st' := []) (pc' := 19) kX4_reached_13 rfl trivial rfl ?_
        refine Gx_mask [true, false, true, true, true, true, false, false] (L' := [some (.ref 50), none, some (.int p2), some (.int a3), some (.int a3), some (.int (0 : Int32)), none, none]) rfl ?_
        obtain ⟨n, h⟩ := h
        exact tX4_reached_19  hk7 n M a3 a3 (0 : Int32) h
def wX4_reached (M : xM) (p1 : Int32) (p2 : Int32) (Q : Int32 → xM → Prop) : Prop :=
    (∃ n : Nat, lX4_reached_7 p1 p2 Q n M ((1 : Int32) <<< (p1 &&& 31)) (0 : Int32))
set_option maxHeartbeats 4000000 in
set_option maxRecDepth 100000 in
theorem tX4_reached {l : Launch} {E : xE} {M : xM} {p1 : Int32} {p2 : Int32} {Q : Int32 → xM → Prop} (h : wX4_reached M p1 p2 Q) : Ct l E mX4_reached [.ref 50, .int p1, .int p2] M (xRi Q) := by
  refine Ct_of (by decide +kernel) rfl (Nat.le_of_ble_eq_true rfl) ?_
  unfold wX4_reached at h
  show Gx l E mX4_reached (xRi Q) 0 M [some (.ref 50), some (.int p1), some (.int p2), none, none, none, none, none] []
  refine Gx_run (es := eX4_reached_0) (P := []) (M' := M) (L' := [some (.ref 50), some (.int p1), some (.int p2), some (.int ((1 : Int32) <<< (p1 &&& 31))), some (.int (0 : Int32)), none, none, none]) (st' := []) (pc' := 7) kX4_reached_0 rfl trivial rfl ?_
  refine Gx_mask [true, false, true, true, true, false, false, false] (L' := [some (.ref 50), none, some (.int p2), some (.int ((1 : Int32) <<< (p1 &&& 31))), some (.int (0 : Int32)), none, none, none]) rfl ?_
  obtain ⟨n, h⟩ := h
  exact tX4_reached_7  n M ((1 : Int32) <<< (p1 &&& 31)) (0 : Int32) h
def eX4_refuses_0 : List xI := [(.iload_n 1, 1, 0, 0, 0), (.iconst 4, 1, 0, 0, (4))]
theorem kX4_refuses_0 : xcode (xmb mX4_refuses) (xmo mX4_refuses) 0 eX4_refuses_0 = true := by decide +kernel
def eX4_refuses_29 : List xI := [(.aload_n 0, 1, 0, 0, 0), (.getfield 7, 3, 4, 1, 0), (.sipush 146, 3, 0, 0, (146)), (.dup2, 1, 0, 0, 0), (.iaload, 1, 0, 0, 0), (.iconst 1, 1, 0, 0, (1)), (.iload_n 1, 1, 0, 0, 0), (.ishl, 1, 0, 0, 0), (.ixor, 1, 0, 0, 0), (.iastore, 1, 0, 0, 0), (.aload_n 0, 1, 0, 0, 0), (.getfield 7, 3, 4, 1, 0), (.sipush 146, 3, 0, 0, (146)), (.iaload, 1, 0, 0, 0), (.iload_n 1, 1, 0, 0, 0), (.ishr, 1, 0, 0, 0), (.iconst 1, 1, 0, 0, (1)), (.iand, 1, 0, 0, 0)]
theorem kX4_refuses_29 : xcode (xmb mX4_refuses) (xmo mX4_refuses) 29 eX4_refuses_29 = true := by decide +kernel
def eX4_refuses_5 : List xI := [(.iload_n 1, 1, 0, 0, 0), (.bipush 12, 2, 0, 0, (12))]
theorem kX4_refuses_5 : xcode (xmb mX4_refuses) (xmo mX4_refuses) 5 eX4_refuses_5 = true := by decide +kernel
def eX4_refuses_11 : List xI := [(.iload_n 1, 1, 0, 0, 0), (.bipush 14, 2, 0, 0, (14)), (.bipush 16, 2, 0, 0, (16))]
theorem kX4_refuses_11 : xcode (xmb mX4_refuses) (xmo mX4_refuses) 11 eX4_refuses_11 = true := by decide +kernel
def eX4_refuses_22 : List xI := [(.aload_n 0, 1, 0, 0, 0), (.bipush (-2), 2, 0, 0, (-2))]
theorem kX4_refuses_22 : xcode (xmb mX4_refuses) (xmo mX4_refuses) 22 eX4_refuses_22 = true := by decide +kernel
def wX4_refuses_29 (p1 : Int32) (Q : Int32 → xM → Prop) (M : xM) : Prop :=
    (vp_in (146 : Int32) 147) ∧ Q ((((xup M 51 (146 : Int32).toNatClampNeg ((M 51 (146 : Int32).toNatClampNeg) ^^^ ((1 : Int32) <<< (p1 &&& 31)))) 51 (146 : Int32).toNatClampNeg) >>> (p1 &&& 31)) &&& (1 : Int32)) (xup M 51 (146 : Int32).toNatClampNeg ((M 51 (146 : Int32).toNatClampNeg) ^^^ ((1 : Int32) <<< (p1 &&& 31))))
set_option maxHeartbeats 4000000 in
set_option maxRecDepth 100000 in
theorem tX4_refuses_29 {l : Launch} {E : xE} {p1 : Int32} {Q : Int32 → xM → Prop} (M : xM) (h : wX4_refuses_29 p1 Q M ) : Gx l E mX4_refuses (xRi Q) 29 M [some (.ref 50), some (.int p1)] [] := by
  unfold wX4_refuses_29 at h
  obtain ⟨g29_0, h⟩ := h
  refine Gx_run (es := eX4_refuses_29) (P := [xkd 50 = 4, xkd 51 = 5, vp_in (146 : Int32) (xln 51), xkd 51 = 5, vp_in (146 : Int32) (xln 51), xkd 50 = 4, xkd 51 = 5, vp_in (146 : Int32) (xln 51)]) (M' := (xup M 51 (146 : Int32).toNatClampNeg ((M 51 (146 : Int32).toNatClampNeg) ^^^ ((1 : Int32) <<< (p1 &&& 31))))) (L' := [some (.ref 50), some (.int p1)]) (st' := [.int ((((xup M 51 (146 : Int32).toNatClampNeg ((M 51 (146 : Int32).toNatClampNeg) ^^^ ((1 : Int32) <<< (p1 &&& 31)))) 51 (146 : Int32).toNatClampNeg) >>> (p1 &&& 31)) &&& (1 : Int32))]) (pc' := 55) kX4_refuses_29 rfl ⟨rfl, rfl, g29_0, rfl, g29_0, rfl, rfl, g29_0, trivial⟩ rfl ?_
  exact Gx_iret (by decide +kernel) rfl rfl ⟨_, rfl, h⟩
def wX4_refuses (M : xM) (p1 : Int32) (Q : Int32 → xM → Prop) : Prop :=
    (((p1 = (4 : Int32)) → (wX4_refuses_29 p1 Q M)) ∧ ((¬ p1 = (4 : Int32)) → ((((p1 = (12 : Int32)) → (wX4_refuses_29 p1 Q M)) ∧ ((¬ p1 = (12 : Int32)) → (wX4_in M p1 (14 : Int32) (16 : Int32) (fun r16 M16 => (((¬ r16 = 0) → (wX4_refuses_29 p1 Q M16)) ∧ ((r16 = 0) → (wX4_refused M16 (-2 : Int32) (fun r25 M25 => Q r25 M25)))))))))))
set_option maxHeartbeats 4000000 in
set_option maxRecDepth 100000 in
theorem tX4_refuses {l : Launch} {E : xE} {M : xM} {p1 : Int32} {Q : Int32 → xM → Prop} (h : wX4_refuses M p1 Q) : Ct l E mX4_refuses [.ref 50, .int p1] M (xRi Q) := by
  refine Ct_of (by decide +kernel) rfl (Nat.le_of_ble_eq_true rfl) ?_
  unfold wX4_refuses at h
  show Gx l E mX4_refuses (xRi Q) 0 M [some (.ref 50), some (.int p1)] []
  refine Gx_run (es := eX4_refuses_0) (P := []) (M' := M) (L' := [some (.ref 50), some (.int p1)]) (st' := [.int (4 : Int32), .int p1]) (pc' := 2) kX4_refuses_0 rfl trivial rfl ?_
  refine Gx_icmp_eq (off := 27) (tgt := 29) (by decide +kernel) (by decide) (fun z => ?_) (fun z => ?_)
  · have h := h.1 z
    refine Gx_mask [true, true] (L' := [some (.ref 50), some (.int p1)]) rfl ?_
    exact tX4_refuses_29  M h
  · have h := h.2 z
    refine Gx_run (es := eX4_refuses_5) (P := []) (M' := M) (L' := [some (.ref 50), some (.int p1)]) (st' := [.int (12 : Int32), .int p1]) (pc' := 8) kX4_refuses_5 rfl trivial rfl ?_
    refine Gx_icmp_eq (off := 21) (tgt := 29) (by decide +kernel) (by decide) (fun z => ?_) (fun z => ?_)
    · have h := h.1 z
      refine Gx_mask [true, true] (L' := [some (.ref 50), some (.int p1)]) rfl ?_
      exact tX4_refuses_29  M h
    · have h := h.2 z
      refine Gx_run (es := eX4_refuses_11) (P := []) (M' := M) (L' := [some (.ref 50), some (.int p1)]) (st' := [.int (16 : Int32), .int (14 : Int32), .int p1]) (pc' := 16) kX4_refuses_11 rfl trivial rfl ?_
      refine Gx_callS (As := [.int p1, .int (14 : Int32), .int (16 : Int32)]) (by decide +kernel) ml_4_43 okX4_in mvX4_in rfl (by decide) (Nat.le_of_ble_eq_true rfl) (tX4_in h) (fun rr M16 qq => ?_)
      obtain ⟨r16, rfl, h⟩ := qq
      show Gx l E mX4_refuses _ 19 M16 [some (.ref 50), some (.int p1)] [.int r16]
      refine Gx_if_ne (off := 10) (tgt := 29) (by decide +kernel) (by decide) (fun z => ?_) (fun z => ?_)
      · have h := h.1 z
        refine Gx_mask [true, true] (L' := [some (.ref 50), some (.int p1)]) rfl ?_
        exact tX4_refuses_29  M16 h
      · have h := h.2 z
        refine Gx_run (es := eX4_refuses_22) (P := []) (M' := M16) (L' := [some (.ref 50), some (.int p1)]) (st' := [.int (-2 : Int32), .ref 50]) (pc' := 25) kX4_refuses_22 rfl trivial rfl ?_
        refine Gx_callV (As := [.int (-2 : Int32)]) (by decide +kernel) ml_4_55 okX4_refused mvX4_refused rfl (by decide) (Nat.le_of_ble_eq_true rfl) rfl rfl rfl (tX4_refused h) (fun rr M25 qq => ?_)
        obtain ⟨r25, rfl, h⟩ := qq
        show Gx l E mX4_refuses _ 28 M25 [some (.ref 50), some (.int p1)] [.int r25]
        exact Gx_iret (by decide +kernel) rfl rfl ⟨_, rfl, h⟩
def eX4_row_0 : List xI := [(.iload_n 1, 1, 0, 0, 0)]
theorem kX4_row_0 : xcode (xmb mX4_row) (xmo mX4_row) 0 eX4_row_0 = true := by decide +kernel
def eX4_row_11 : List xI := [(.iload_n 1, 1, 0, 0, 0), (.bipush 99, 2, 0, 0, (99))]
theorem kX4_row_11 : xcode (xmb mX4_row) (xmo mX4_row) 11 eX4_row_11 = true := by decide +kernel
def eX4_row_26 : List xI := [(.aload_n 0, 1, 0, 0, 0), (.bipush (-6), 2, 0, 0, (-6))]
theorem kX4_row_26 : xcode (xmb mX4_row) (xmo mX4_row) 26 eX4_row_26 = true := by decide +kernel
def eX4_row_17 : List xI := [(.aload_n 0, 1, 0, 0, 0), (.getfield 237, 3, 4, 16, 0), (.bipush 32, 2, 0, 0, (32))]
theorem kX4_row_17 : xcode (xmb mX4_row) (xmo mX4_row) 17 eX4_row_17 = true := by decide +kernel
def eX4_row_33 : List xI := [(.aload_n 0, 1, 0, 0, 0), (.getfield 34, 3, 4, 15, 0), (.aload_n 0, 1, 0, 0, 0), (.getfield 237, 3, 4, 16, 0), (.iload_n 1, 1, 0, 0, 0), (.iastore, 1, 0, 0, 0), (.aload_n 0, 1, 0, 0, 0), (.dup, 1, 0, 0, 0), (.getfield 237, 3, 4, 16, 0), (.iconst 1, 1, 0, 0, (1)), (.iadd, 1, 0, 0, 0), (.putfield 237, 3, 4, 16, 0), (.aload_n 0, 1, 0, 0, 0), (.getfield 237, 3, 4, 16, 0)]
theorem kX4_row_33 : xcode (xmb mX4_row) (xmo mX4_row) 33 eX4_row_33 = true := by decide +kernel
def eX4_row_4 : List xI := [(.aload_n 0, 1, 0, 0, 0), (.bipush (-4), 2, 0, 0, (-4))]
theorem kX4_row_4 : xcode (xmb mX4_row) (xmo mX4_row) 4 eX4_row_4 = true := by decide +kernel
def wX4_row_26 (p1 : Int32) (Q : Int32 → xM → Prop) (M : xM) : Prop :=
    wX4_refused M (-6 : Int32) (fun r29 M29 => Q r29 M29)
set_option maxHeartbeats 4000000 in
set_option maxRecDepth 100000 in
theorem tX4_row_26 {l : Launch} {E : xE} {p1 : Int32} {Q : Int32 → xM → Prop} (M : xM) (h : wX4_row_26 p1 Q M ) : Gx l E mX4_row (xRi Q) 26 M [some (.ref 50), none] [] := by
  unfold wX4_row_26 at h
  refine Gx_run (es := eX4_row_26) (P := []) (M' := M) (L' := [some (.ref 50), none]) (st' := [.int (-6 : Int32), .ref 50]) (pc' := 29) kX4_row_26 rfl trivial rfl ?_
  refine Gx_callV (As := [.int (-6 : Int32)]) (by decide +kernel) ml_4_55 okX4_refused mvX4_refused rfl (by decide) (Nat.le_of_ble_eq_true rfl) rfl rfl rfl (tX4_refused h) (fun rr M29 qq => ?_)
  obtain ⟨r29, rfl, h⟩ := qq
  show Gx l E mX4_row _ 32 M29 [some (.ref 50), none] [.int r29]
  exact Gx_iret (by decide +kernel) rfl rfl ⟨_, rfl, h⟩
def wX4_row (M : xM) (p1 : Int32) (Q : Int32 → xM → Prop) : Prop :=
    (((0 ≤ p1) → (((((99 : Int32) < p1) → (wX4_row_26 p1 Q M)) ∧ ((¬ (99 : Int32) < p1) → ((((¬ (M 50 16) = (32 : Int32)) → ((vp_in (M 50 16) 32) ∧ Q ((xup (xup M 59 (M 50 16).toNatClampNeg p1) 50 16 (((xup M 59 (M 50 16).toNatClampNeg p1) 50 16) + (1 : Int32))) 50 16) (xup (xup M 59 (M 50 16).toNatClampNeg p1) 50 16 (((xup M 59 (M 50 16).toNatClampNeg p1) 50 16) + (1 : Int32))))) ∧ (((M 50 16) = (32 : Int32)) → (wX4_row_26 p1 Q M)))))))) ∧ ((¬ 0 ≤ p1) → (wX4_refused M (-4 : Int32) (fun r7 M7 => Q r7 M7))))
set_option maxHeartbeats 4000000 in
set_option maxRecDepth 100000 in
theorem tX4_row {l : Launch} {E : xE} {M : xM} {p1 : Int32} {Q : Int32 → xM → Prop} (h : wX4_row M p1 Q) : Ct l E mX4_row [.ref 50, .int p1] M (xRi Q) := by
  refine Ct_of (by decide +kernel) rfl (Nat.le_of_ble_eq_true rfl) ?_
  unfold wX4_row at h
  show Gx l E mX4_row (xRi Q) 0 M [some (.ref 50), some (.int p1)] []
  refine Gx_run (es := eX4_row_0) (P := []) (M' := M) (L' := [some (.ref 50), some (.int p1)]) (st' := [.int p1]) (pc' := 1) kX4_row_0 rfl trivial rfl ?_
  refine Gx_if_ge (off := 10) (tgt := 11) (by decide +kernel) (by decide) (fun z => ?_) (fun z => ?_)
  · have h := h.1 z
    refine Gx_run (es := eX4_row_11) (P := []) (M' := M) (L' := [some (.ref 50), some (.int p1)]) (st' := [.int (99 : Int32), .int p1]) (pc' := 14) kX4_row_11 rfl trivial rfl ?_
    refine Gx_icmp_gt (off := 12) (tgt := 26) (by decide +kernel) (by decide) (fun z => ?_) (fun z => ?_)
    · have h := h.1 z
      refine Gx_mask [true, false] (L' := [some (.ref 50), none]) rfl ?_
      exact tX4_row_26  M h
    · have h := h.2 z
      refine Gx_run (es := eX4_row_17) (P := [xkd 50 = 4]) (M' := M) (L' := [some (.ref 50), some (.int p1)]) (st' := [.int (32 : Int32), .int (M 50 16)]) (pc' := 23) kX4_row_17 rfl ⟨rfl, trivial⟩ rfl ?_
      refine Gx_icmp_ne (off := 10) (tgt := 33) (by decide +kernel) (by decide) (fun z => ?_) (fun z => ?_)
      · have h := h.1 z
        obtain ⟨g33_0, h⟩ := h
        refine Gx_run (es := eX4_row_33) (P := [xkd 50 = 4, xkd 50 = 4, xkd 59 = 5, vp_in (M 50 16) (xln 59), xkd 50 = 4, xkd 50 = 4, xkd 50 = 4]) (M' := (xup (xup M 59 (M 50 16).toNatClampNeg p1) 50 16 (((xup M 59 (M 50 16).toNatClampNeg p1) 50 16) + (1 : Int32)))) (L' := [some (.ref 50), some (.int p1)]) (st' := [.int ((xup (xup M 59 (M 50 16).toNatClampNeg p1) 50 16 (((xup M 59 (M 50 16).toNatClampNeg p1) 50 16) + (1 : Int32))) 50 16)]) (pc' := 57) kX4_row_33 rfl ⟨rfl, rfl, rfl, g33_0, rfl, rfl, rfl, trivial⟩ rfl ?_
        exact Gx_iret (by decide +kernel) rfl rfl ⟨_, rfl, h⟩
      · have h := h.2 z
        refine Gx_mask [true, false] (L' := [some (.ref 50), none]) rfl ?_
        exact tX4_row_26  M h
  · have h := h.2 z
    refine Gx_run (es := eX4_row_4) (P := []) (M' := M) (L' := [some (.ref 50), some (.int p1)]) (st' := [.int (-4 : Int32), .ref 50]) (pc' := 7) kX4_row_4 rfl trivial rfl ?_
    refine Gx_callV (As := [.int (-4 : Int32)]) (by decide +kernel) ml_4_55 okX4_refused mvX4_refused rfl (by decide) (Nat.le_of_ble_eq_true rfl) rfl rfl rfl (tX4_refused h) (fun rr M7 qq => ?_)
    obtain ⟨r7, rfl, h⟩ := qq
    show Gx l E mX4_row _ 10 M7 [some (.ref 50), some (.int p1)] [.int r7]
    exact Gx_iret (by decide +kernel) rfl rfl ⟨_, rfl, h⟩
def eJ0_indexOf_7cf53_0 : List xI := [(.aload_n 0, 1, 0, 0, 0)]
theorem kJ0_indexOf_7cf53_0 : xcode (xmb mJ0_indexOf_7cf53) (xmo mJ0_indexOf_7cf53) 0 eJ0_indexOf_7cf53_0 = true := by decide +kernel
def eJ0_indexOf_7cf53_23 : List xI := [(.aload_n 0, 1, 0, 0, 0), (.getfield 9, 3, 9, 0, 0), (.iload_n 1, 1, 0, 0, 0), (.iload_n 2, 1, 0, 0, 0), (.aload_n 0, 1, 0, 0, 0)]
theorem kJ0_indexOf_7cf53_23 : xcode (xmb mJ0_indexOf_7cf53) (xmo mJ0_indexOf_7cf53) 23 eJ0_indexOf_7cf53_23 = true := by decide +kernel
def eJ0_indexOf_7cf53_7 : List xI := [(.aload_n 0, 1, 0, 0, 0), (.getfield 9, 3, 9, 0, 0), (.iload_n 1, 1, 0, 0, 0), (.iload_n 2, 1, 0, 0, 0), (.aload_n 0, 1, 0, 0, 0)]
theorem kJ0_indexOf_7cf53_7 : xcode (xmb mJ0_indexOf_7cf53) (xmo mJ0_indexOf_7cf53) 7 eJ0_indexOf_7cf53_7 = true := by decide +kernel
def wJ0_indexOf_7cf53_36 (t : Nat) (p1 : Int32) (p2 : Int32) (Q : Int32 → xM → Prop) (M : xM) (s0 : Int32) : Prop :=
    Q s0 M
set_option maxHeartbeats 4000000 in
set_option maxRecDepth 100000 in
theorem tJ0_indexOf_7cf53_36 {l : Launch} {E : xE} {t : Nat} {p1 : Int32} {p2 : Int32} {Q : Int32 → xM → Prop} (h_t : xStp t) (M : xM) (s0 : Int32) (h : wJ0_indexOf_7cf53_36 t p1 p2 Q M s0) : Gx l E mJ0_indexOf_7cf53 (xRi Q) 36 M [none, none, none] [.int s0] := by
  unfold wJ0_indexOf_7cf53_36 at h
  exact Gx_iret (by decide +kernel) rfl rfl ⟨_, rfl, h⟩
def wJ0_indexOf_7cf53 (M : xM) (t : Nat) (p1 : Int32) (p2 : Int32) (Q : Int32 → xM → Prop) : Prop :=
    wJ0_isLatin1_aae02 M t (fun r1 M1 => (((r1 = 0) → (wJ0_length_8abf5 M1 t (fun r30 M30 => False))) ∧ ((¬ r1 = 0) → (wJ0_length_8abf5 M1 t (fun r14 M14 => wJ1_indexOf_4cfef M14 (t + 20) p1 p2 r14 (fun r17 M17 => wJ0_indexOf_7cf53_36 t p1 p2 Q M17 r17))))))
set_option maxHeartbeats 4000000 in
set_option maxRecDepth 100000 in
theorem tJ0_indexOf_7cf53 {l : Launch} {E : xE} {M : xM} {t : Nat} {p1 : Int32} {p2 : Int32} {Q : Int32 → xM → Prop} (h_t : xStp t) (h : wJ0_indexOf_7cf53 M t p1 p2 Q) : Ct l E mJ0_indexOf_7cf53 [.ref t, .int p1, .int p2] M (xRi Q) := by
  refine Ct_of (by decide +kernel) rfl (Nat.le_of_ble_eq_true rfl) ?_
  unfold wJ0_indexOf_7cf53 at h
  show Gx l E mJ0_indexOf_7cf53 (xRi Q) 0 M [some (.ref t), some (.int p1), some (.int p2)] []
  refine Gx_run (es := eJ0_indexOf_7cf53_0) (P := []) (M' := M) (L' := [some (.ref t), some (.int p1), some (.int p2)]) (st' := [.ref t]) (pc' := 1) kJ0_indexOf_7cf53_0 rfl trivial rfl ?_
  refine Gx_callTp (As := []) (by decide +kernel) ml_5_492 okJ0_isLatin1_aae02 mvJ0_isLatin1_aae02 rfl (by decide) (Nat.le_of_ble_eq_true rfl) h_t rfl (tJ0_isLatin1_aae02 h_t h) (fun rr M1 qq => ?_)
  obtain ⟨r1, rfl, h⟩ := qq
  show Gx l E mJ0_indexOf_7cf53 _ 4 M1 [some (.ref t), some (.int p1), some (.int p2)] [.int r1]
  refine Gx_if_eq (off := 19) (tgt := 23) (by decide +kernel) (by decide) (fun z => ?_) (fun z => ?_)
  · have h := h.1 z
    refine Gx_run (es := eJ0_indexOf_7cf53_23) (P := [110 ≤ t, t < 119]) (M' := M1) (L' := [some (.ref t), some (.int p1), some (.int p2)]) (st' := [.ref t, .int p2, .int p1, .ref (t + 20)]) (pc' := 30) kJ0_indexOf_7cf53_23 rfl ⟨h_t.1, h_t.2, trivial⟩ rfl ?_
    refine Gx_callTp (As := []) (by decide +kernel) ml_5_505 okJ0_length_8abf5 mvJ0_length_8abf5 rfl (by decide) (Nat.le_of_ble_eq_true rfl) h_t rfl (tJ0_length_8abf5 h_t h) (fun rr M30 qq => ?_)
    obtain ⟨r30, rfl, h⟩ := qq
    show Gx l E mJ0_indexOf_7cf53 _ 33 M30 [some (.ref t), some (.int p1), some (.int p2)] [.int r30, .int p2, .int p1, .ref (t + 20)]
    exact h.elim
  · have h := h.2 z
    refine Gx_run (es := eJ0_indexOf_7cf53_7) (P := [110 ≤ t, t < 119]) (M' := M1) (L' := [some (.ref t), some (.int p1), some (.int p2)]) (st' := [.ref t, .int p2, .int p1, .ref (t + 20)]) (pc' := 14) kJ0_indexOf_7cf53_7 rfl ⟨h_t.1, h_t.2, trivial⟩ rfl ?_
    refine Gx_callTp (As := []) (by decide +kernel) ml_5_505 okJ0_length_8abf5 mvJ0_length_8abf5 rfl (by decide) (Nat.le_of_ble_eq_true rfl) h_t rfl (tJ0_length_8abf5 h_t h) (fun rr M14 qq => ?_)
    obtain ⟨r14, rfl, h⟩ := qq
    show Gx l E mJ0_indexOf_7cf53 _ 17 M14 [some (.ref t), some (.int p1), some (.int p2)] [.int r14, .int p2, .int p1, .ref (t + 20)]
    refine Gx_callS (As := [.ref (t + 20), .int p1, .int p2, .int r14]) (by decide +kernel) ml_5_637 okJ1_indexOf_4cfef mvJ1_indexOf_4cfef rfl (by decide) (Nat.le_of_ble_eq_true rfl) (tJ1_indexOf_4cfef (xByt_of h_t) h) (fun rr M17 qq => ?_)
    obtain ⟨r17, rfl, h⟩ := qq
    show Gx l E mJ0_indexOf_7cf53 _ 20 M17 [some (.ref t), some (.int p1), some (.int p2)] [.int r17]
    refine Gx_goto (off := 16) (tgt := 36) (by decide +kernel) (by decide) ?_
    refine Gx_mask [false, false, false] (L' := [none, none, none]) rfl ?_
    exact tJ0_indexOf_7cf53_36 h_t  M17 r17 h
def eJ1_charAt_3b067_0 : List xI := [(.iload_n 1, 1, 0, 0, 0), (.aload_n 0, 1, 0, 0, 0), (.arraylength, 1, 1, 0, 0)]
theorem kJ1_charAt_3b067_0 : xcode (xmb mJ1_charAt_3b067) (xmo mJ1_charAt_3b067) 0 eJ1_charAt_3b067_0 = true := by decide +kernel
def eJ1_charAt_3b067_6 : List xI := [(.aload_n 0, 1, 0, 0, 0), (.iload_n 1, 1, 0, 0, 0), (.baload, 1, 0, 0, 0), (.sipush 255, 3, 0, 0, (255)), (.iand, 1, 0, 0, 0), (.i2c, 1, 0, 0, 0)]
theorem kJ1_charAt_3b067_6 : xcode (xmb mJ1_charAt_3b067) (xmo mJ1_charAt_3b067) 6 eJ1_charAt_3b067_6 = true := by decide +kernel
def wJ1_charAt_3b067 (M : xM) (p1 : Nat) (p2 : Int32) (Q : Int32 → xM → Prop) : Prop :=
    wJ0_checkIndex_df160 M p2 (nI (xsl (p1 - 130))) (fun M3 => (vp_in p2 (xsl (p1 - 130))) ∧ ((((xsb (p1 - 130) p2.toNatClampNeg) &&& (255 : Int32)).toUInt32 % 65536).toInt32.toUInt32.toUInt16.toUInt32.toInt32 = (((xsb (p1 - 130) p2.toNatClampNeg) &&& (255 : Int32)).toUInt32 % 65536).toInt32) ∧ Q (((xsb (p1 - 130) p2.toNatClampNeg) &&& (255 : Int32)).toUInt32 % 65536).toInt32 M3)
set_option maxHeartbeats 4000000 in
set_option maxRecDepth 100000 in
theorem tJ1_charAt_3b067 {l : Launch} {E : xE} {M : xM} {p1 : Nat} {p2 : Int32} {Q : Int32 → xM → Prop} (h_p1 : xByt p1) (h : wJ1_charAt_3b067 M p1 p2 Q) : Ct l E mJ1_charAt_3b067 [.ref p1, .int p2] M (xRi Q) := by
  refine Ct_of (by decide +kernel) rfl (Nat.le_of_ble_eq_true rfl) ?_
  unfold wJ1_charAt_3b067 at h
  show Gx l E mJ1_charAt_3b067 (xRi Q) 0 M [some (.ref p1), some (.int p2)] []
  refine Gx_run (es := eJ1_charAt_3b067_0) (P := [130 ≤ p1, p1 < 139]) (M' := M) (L' := [some (.ref p1), some (.int p2)]) (st' := [.int (nI (xsl (p1 - 130))), .int p2]) (pc' := 3) kJ1_charAt_3b067_0 rfl ⟨h_p1.1, h_p1.2, trivial⟩ rfl ?_
  refine Gx_callS (As := [.int p2, .int (nI (xsl (p1 - 130)))]) (by decide +kernel) ml_6_9 okJ0_checkIndex_df160 mvJ0_checkIndex_df160 rfl (by decide) (Nat.le_of_ble_eq_true rfl) (tJ0_checkIndex_df160 h) (fun rr M3 qq => ?_)
  obtain ⟨rfl, h⟩ := qq
  show Gx l E mJ1_charAt_3b067 _ 6 M3 [some (.ref p1), some (.int p2)] []
  obtain ⟨g6_0, h⟩ := h
  refine Gx_run (es := eJ1_charAt_3b067_6) (P := [130 ≤ p1, p1 < 139, vp_in p2 (xsl (p1 - 130))]) (M' := M3) (L' := [some (.ref p1), some (.int p2)]) (st' := [.int (((xsb (p1 - 130) p2.toNatClampNeg) &&& (255 : Int32)).toUInt32 % 65536).toInt32]) (pc' := 14) kJ1_charAt_3b067_6 rfl ⟨h_p1.1, h_p1.2, g6_0, trivial⟩ rfl ?_
  exact Gx_iret (by decide +kernel) rfl (congrArg Value.int h.1) ⟨_, rfl, h.2⟩
def eX0_attach_0 : List xI := [(.aload_n 0, 1, 0, 0, 0), (.getfield 12, 3, 0, 0, 0), (.iconst 0, 1, 0, 0, (0))]
theorem kX0_attach_0 : xcode (xmb mX0_attach) (xmo mX0_attach) 0 eX0_attach_0 = true := by decide +kernel
def eX0_attach_8 : List xI := [(.istore_n 2, 1, 0, 0, 0), (.iload_n 2, 1, 0, 0, 0), (.bipush (-9), 2, 0, 0, (-9))]
theorem kX0_attach_8 : xcode (xmb mX0_attach) (xmo mX0_attach) 8 eX0_attach_8 = true := by decide +kernel
def eX0_attach_26 : List xI := [(.aload_n 0, 1, 0, 0, 0), (.getfield 12, 3, 0, 0, 0), (.iconst 0, 1, 0, 0, (0)), (.iload_n 2, 1, 0, 0, 0), (.aload_n 0, 1, 0, 0, 0), (.getfield 12, 3, 0, 0, 0), (.iconst 0, 1, 0, 0, (0))]
theorem kX0_attach_26 : xcode (xmb mX0_attach) (xmo mX0_attach) 26 eX0_attach_26 = true := by decide +kernel
def eX0_attach_40 : List xI := [(.iload_n 1, 1, 0, 0, 0)]
theorem kX0_attach_40 : xcode (xmb mX0_attach) (xmo mX0_attach) 40 eX0_attach_40 = true := by decide +kernel
def eX0_attach_44 : List xI := [(.iload_n 2, 1, 0, 0, 0)]
theorem kX0_attach_44 : xcode (xmb mX0_attach) (xmo mX0_attach) 44 eX0_attach_44 = true := by decide +kernel
def eX0_attach_15 : List xI := [(.aload_n 0, 1, 0, 0, 0), (.getfield 12, 3, 0, 0, 0), (.iload_n 1, 1, 0, 0, 0)]
theorem kX0_attach_15 : xcode (xmb mX0_attach) (xmo mX0_attach) 15 eX0_attach_15 = true := by decide +kernel
def wX0_attach_44 (c : Nat) (p1 : Int32) (Q : Int32 → xM → Prop) (M : xM) (a2 : Int32) : Prop :=
    Q a2 M
set_option maxHeartbeats 4000000 in
set_option maxRecDepth 100000 in
theorem tX0_attach_44 {l : Launch} {E : xE} {c : Nat} {p1 : Int32} {Q : Int32 → xM → Prop} (h_c : xChk c) (M : xM) (a2 : Int32) (h : wX0_attach_44 c p1 Q M a2) : Gx l E mX0_attach (xRi Q) 44 M [none, none, some (.int a2)] [] := by
  unfold wX0_attach_44 at h
  refine Gx_run (es := eX0_attach_44) (P := []) (M' := M) (L' := [none, none, some (.int a2)]) (st' := [.int a2]) (pc' := 45) kX0_attach_44 rfl trivial rfl ?_
  exact Gx_iret (by decide +kernel) rfl rfl ⟨_, rfl, h⟩
def wX0_attach (M : xM) (c : Nat) (p1 : Int32) (Q : Int32 → xM → Prop) : Prop :=
    wX2_emptySlotOf M (c + 1) (0 : Int32) (fun r5 M5 => (((¬ r5 = (-9 : Int32)) → (wX2_freeNameIn M5 (c + 1) (0 : Int32) (fun r37 M37 => wX2_enter M37 (c + 1) (0 : Int32) r5 r37 p1 (fun M41 => wX0_attach_44 c p1 Q M41 r5)))) ∧ ((r5 = (-9 : Int32)) → (wX2_wipe M5 (c + 1) p1 (fun M20 => wX0_attach_44 c p1 Q M20 r5)))))
set_option maxHeartbeats 4000000 in
set_option maxRecDepth 100000 in
theorem tX0_attach {l : Launch} {E : xE} {M : xM} {c : Nat} {p1 : Int32} {Q : Int32 → xM → Prop} (h_c : xChk c) (h : wX0_attach M c p1 Q) : Ct l E mX0_attach [.ref c, .int p1] M (xRi Q) := by
  refine Ct_of (by decide +kernel) rfl (Nat.le_of_ble_eq_true rfl) ?_
  unfold wX0_attach at h
  show Gx l E mX0_attach (xRi Q) 0 M [some (.ref c), some (.int p1), none] []
  refine Gx_run (es := eX0_attach_0) (P := [xkd c = 0]) (M' := M) (L' := [some (.ref c), some (.int p1), none]) (st' := [.int (0 : Int32), .ref (c + 1)]) (pc' := 5) kX0_attach_0 rfl ⟨(xChk_0 h_c), trivial⟩ rfl ?_
  refine Gx_callV (As := [.int (0 : Int32)]) (by decide +kernel) ml_0_138 okX2_emptySlotOf mvX2_emptySlotOf rfl (by decide) (Nat.le_of_ble_eq_true rfl) (xChk_1 h_c) rfl rfl (tX2_emptySlotOf (xChk_v h_c) h) (fun rr M5 qq => ?_)
  obtain ⟨r5, rfl, h⟩ := qq
  show Gx l E mX0_attach _ 8 M5 [some (.ref c), some (.int p1), none] [.int r5]
  refine Gx_run (es := eX0_attach_8) (P := []) (M' := M5) (L' := [some (.ref c), some (.int p1), some (.int r5)]) (st' := [.int (-9 : Int32), .int r5]) (pc' := 12) kX0_attach_8 rfl trivial rfl ?_
  refine Gx_icmp_ne (off := 14) (tgt := 26) (by decide +kernel) (by decide) (fun z => ?_) (fun z => ?_)
  · have h := h.1 z
    refine Gx_run (es := eX0_attach_26) (P := [xkd c = 0, xkd c = 0]) (M' := M5) (L' := [some (.ref c), some (.int p1), some (.int r5)]) (st' := [.int (0 : Int32), .ref (c + 1), .int r5, .int (0 : Int32), .ref (c + 1)]) (pc' := 37) kX0_attach_26 rfl ⟨(xChk_0 h_c), (xChk_0 h_c), trivial⟩ rfl ?_
    refine Gx_callV (As := [.int (0 : Int32)]) (by decide +kernel) ml_0_141 okX2_freeNameIn mvX2_freeNameIn rfl (by decide) (Nat.le_of_ble_eq_true rfl) (xChk_1 h_c) rfl rfl (tX2_freeNameIn (xChk_v h_c) h) (fun rr M37 qq => ?_)
    obtain ⟨r37, rfl, h⟩ := qq
    show Gx l E mX0_attach _ 40 M37 [some (.ref c), some (.int p1), some (.int r5)] [.int r37, .int r5, .int (0 : Int32), .ref (c + 1)]
    refine Gx_run (es := eX0_attach_40) (P := []) (M' := M37) (L' := [some (.ref c), some (.int p1), some (.int r5)]) (st' := [.int p1, .int r37, .int r5, .int (0 : Int32), .ref (c + 1)]) (pc' := 41) kX0_attach_40 rfl trivial rfl ?_
    refine Gx_callV (As := [.int (0 : Int32), .int r5, .int r37, .int p1]) (by decide +kernel) ml_0_144 okX2_enter mvX2_enter rfl (by decide) (Nat.le_of_ble_eq_true rfl) (xChk_1 h_c) rfl rfl (tX2_enter (xChk_v h_c) h) (fun rr M41 qq => ?_)
    obtain ⟨rfl, h⟩ := qq
    show Gx l E mX0_attach _ 44 M41 [some (.ref c), some (.int p1), some (.int r5)] []
    refine Gx_mask [false, false, true] (L' := [none, none, some (.int r5)]) rfl ?_
    exact tX0_attach_44 h_c  M41 r5 h
  · have h := h.2 z
    refine Gx_run (es := eX0_attach_15) (P := [xkd c = 0]) (M' := M5) (L' := [some (.ref c), some (.int p1), some (.int r5)]) (st' := [.int p1, .ref (c + 1)]) (pc' := 20) kX0_attach_15 rfl ⟨(xChk_0 h_c), trivial⟩ rfl ?_
    refine Gx_callV (As := [.int p1]) (by decide +kernel) ml_0_68 okX2_wipe mvX2_wipe rfl (by decide) (Nat.le_of_ble_eq_true rfl) (xChk_1 h_c) rfl rfl (tX2_wipe (xChk_v h_c) h) (fun rr M20 qq => ?_)
    obtain ⟨rfl, h⟩ := qq
    show Gx l E mX0_attach _ 23 M20 [some (.ref c), some (.int p1), some (.int r5)] []
    refine Gx_goto (off := 21) (tgt := 44) (by decide +kernel) (by decide) ?_
    refine Gx_mask [false, false, true] (L' := [none, none, some (.int r5)]) rfl ?_
    exact tX0_attach_44 h_c  M20 r5 h
def eX0_cloneFor_0 : List xI := [(.aload_n 0, 1, 0, 0, 0), (.getfield 12, 3, 0, 0, 0), (.getfield 72, 3, 2, 0, 0), (.iload_n 1, 1, 0, 0, 0), (.iaload, 1, 0, 0, 0), (.iconst 4, 1, 0, 0, (4))]
theorem kX0_cloneFor_0 : xcode (xmb mX0_cloneFor) (xmo mX0_cloneFor) 0 eX0_cloneFor_0 = true := by decide +kernel
def eX0_cloneFor_18 : List xI := [(.aload_n 0, 1, 0, 0, 0), (.getfield 12, 3, 0, 0, 0)]
theorem kX0_cloneFor_18 : xcode (xmb mX0_cloneFor) (xmo mX0_cloneFor) 18 eX0_cloneFor_18 = true := by decide +kernel
def eX0_cloneFor_25 : List xI := [(.istore_n 3, 1, 0, 0, 0), (.iload_n 3, 1, 0, 0, 0), (.bipush (-9), 2, 0, 0, (-9))]
theorem kX0_cloneFor_25 : xcode (xmb mX0_cloneFor) (xmo mX0_cloneFor) 25 eX0_cloneFor_25 = true := by decide +kernel
def eX0_cloneFor_50 : List xI := [(.iload_n 3, 1, 0, 0, 0)]
theorem kX0_cloneFor_50 : xcode (xmb mX0_cloneFor) (xmo mX0_cloneFor) 50 eX0_cloneFor_50 = true := by decide +kernel
def eX0_cloneFor_32 : List xI := [(.aload_n 0, 1, 0, 0, 0), (.getfield 12, 3, 0, 0, 0), (.getfield 96, 3, 2, 5, 0), (.iload_n 3, 1, 0, 0, 0), (.aload_n 0, 1, 0, 0, 0), (.getfield 12, 3, 0, 0, 0), (.getfield 96, 3, 2, 5, 0), (.iload_n 2, 1, 0, 0, 0), (.iaload, 1, 0, 0, 0), (.iastore, 1, 0, 0, 0)]
theorem kX0_cloneFor_32 : xcode (xmb mX0_cloneFor) (xmo mX0_cloneFor) 32 eX0_cloneFor_32 = true := by decide +kernel
def eX0_cloneFor_13 : List xI := [(.bipush (-9), 2, 0, 0, (-9))]
theorem kX0_cloneFor_13 : xcode (xmb mX0_cloneFor) (xmo mX0_cloneFor) 13 eX0_cloneFor_13 = true := by decide +kernel
def wX0_cloneFor_50 (c : Nat) (p1 : Int32) (p2 : Int32) (Q : Int32 → xM → Prop) (M : xM) (a3 : Int32) : Prop :=
    Q a3 M
set_option maxHeartbeats 4000000 in
set_option maxRecDepth 100000 in
theorem tX0_cloneFor_50 {l : Launch} {E : xE} {c : Nat} {p1 : Int32} {p2 : Int32} {Q : Int32 → xM → Prop} (h_c : xChk c) (M : xM) (a3 : Int32) (h : wX0_cloneFor_50 c p1 p2 Q M a3) : Gx l E mX0_cloneFor (xRi Q) 50 M [none, none, none, some (.int a3)] [] := by
  unfold wX0_cloneFor_50 at h
  refine Gx_run (es := eX0_cloneFor_50) (P := []) (M' := M) (L' := [none, none, none, some (.int a3)]) (st' := [.int a3]) (pc' := 51) kX0_cloneFor_50 rfl trivial rfl ?_
  exact Gx_iret (by decide +kernel) rfl rfl ⟨_, rfl, h⟩
def wX0_cloneFor_25 (c : Nat) (p1 : Int32) (p2 : Int32) (Q : Int32 → xM → Prop) (M : xM) (s0 : Int32) : Prop :=
    (((s0 = (-9 : Int32)) → (wX0_cloneFor_50 c p1 p2 Q M s0)) ∧ ((¬ s0 = (-9 : Int32)) → ((vp_in p2 24) ∧ (vp_in s0 24) ∧ wX0_cloneFor_50 c p1 p2 Q (xup M (c + 7) s0.toNatClampNeg (M (c + 7) p2.toNatClampNeg)) s0)))
set_option maxHeartbeats 4000000 in
set_option maxRecDepth 100000 in
theorem tX0_cloneFor_25 {l : Launch} {E : xE} {c : Nat} {p1 : Int32} {p2 : Int32} {Q : Int32 → xM → Prop} (h_c : xChk c) (M : xM) (s0 : Int32) (h : wX0_cloneFor_25 c p1 p2 Q M s0) : Gx l E mX0_cloneFor (xRi Q) 25 M [some (.ref c), none, some (.int p2), none] [.int s0] := by
  unfold wX0_cloneFor_25 at h
  refine Gx_run (es := eX0_cloneFor_25) (P := []) (M' := M) (L' := [some (.ref c), none, some (.int p2), some (.int s0)]) (st' := [.int (-9 : Int32), .int s0]) (pc' := 29) kX0_cloneFor_25 rfl trivial rfl ?_
  refine Gx_icmp_eq (off := 21) (tgt := 50) (by decide +kernel) (by decide) (fun z => ?_) (fun z => ?_)
  · have h := h.1 z
    refine Gx_mask [false, false, false, true] (L' := [none, none, none, some (.int s0)]) rfl ?_
    exact tX0_cloneFor_50 h_c  M s0 h
  · have h := h.2 z
    obtain ⟨g32_0, g32_1, h⟩ := h
    refine Gx_run (es := eX0_cloneFor_32) (P := [xkd c = 0, xkd (c + 1) = 2, xkd c = 0, xkd (c + 1) = 2, xkd (c + 7) = 5, vp_in p2 (xln (c + 7)), xkd (c + 7) = 5, vp_in s0 (xln (c + 7))]) (M' := (xup M (c + 7) s0.toNatClampNeg (M (c + 7) p2.toNatClampNeg))) (L' := [some (.ref c), none, some (.int p2), some (.int s0)]) (st' := []) (pc' := 50) kX0_cloneFor_32 rfl ⟨(xChk_0 h_c), (xChk_1 h_c), (xChk_0 h_c), (xChk_1 h_c), (xChk_7 h_c), (by rw [xChk_l7 h_c]; exact g32_0), (xChk_7 h_c), (by rw [xChk_l7 h_c]; exact g32_1), trivial⟩ rfl ?_
    refine Gx_mask [false, false, false, true] (L' := [none, none, none, some (.int s0)]) rfl ?_
    exact tX0_cloneFor_50 h_c  (xup M (c + 7) s0.toNatClampNeg (M (c + 7) p2.toNatClampNeg)) s0 h
def wX0_cloneFor (M : xM) (c : Nat) (p1 : Int32) (p2 : Int32) (Q : Int32 → xM → Prop) : Prop :=
    (vp_in p1 10) ∧ (((¬ (M (c + 2) p1.toNatClampNeg) = (4 : Int32)) → (wX2_freeBlock M (c + 1) (fun r22 M22 => wX0_cloneFor_25 c p1 p2 Q M22 r22))) ∧ (((M (c + 2) p1.toNatClampNeg) = (4 : Int32)) → (wX0_cloneFor_25 c p1 p2 Q M (-9 : Int32))))
set_option maxHeartbeats 4000000 in
set_option maxRecDepth 100000 in
theorem tX0_cloneFor {l : Launch} {E : xE} {M : xM} {c : Nat} {p1 : Int32} {p2 : Int32} {Q : Int32 → xM → Prop} (h_c : xChk c) (h : wX0_cloneFor M c p1 p2 Q) : Ct l E mX0_cloneFor [.ref c, .int p1, .int p2] M (xRi Q) := by
  refine Ct_of (by decide +kernel) rfl (Nat.le_of_ble_eq_true rfl) ?_
  unfold wX0_cloneFor at h
  show Gx l E mX0_cloneFor (xRi Q) 0 M [some (.ref c), some (.int p1), some (.int p2), none] []
  obtain ⟨g0_0, h⟩ := h
  refine Gx_run (es := eX0_cloneFor_0) (P := [xkd c = 0, xkd (c + 1) = 2, xkd (c + 2) = 5, vp_in p1 (xln (c + 2))]) (M' := M) (L' := [some (.ref c), some (.int p1), some (.int p2), none]) (st' := [.int (4 : Int32), .int (M (c + 2) p1.toNatClampNeg)]) (pc' := 10) kX0_cloneFor_0 rfl ⟨(xChk_0 h_c), (xChk_1 h_c), (xChk_2 h_c), (by rw [xChk_l2 h_c]; exact g0_0), trivial⟩ rfl ?_
  refine Gx_icmp_ne (off := 8) (tgt := 18) (by decide +kernel) (by decide) (fun z => ?_) (fun z => ?_)
  · have h := h.1 z
    refine Gx_run (es := eX0_cloneFor_18) (P := [xkd c = 0]) (M' := M) (L' := [some (.ref c), some (.int p1), some (.int p2), none]) (st' := [.ref (c + 1)]) (pc' := 22) kX0_cloneFor_18 rfl ⟨(xChk_0 h_c), trivial⟩ rfl ?_
    refine Gx_callV (As := []) (by decide +kernel) ml_0_92 okX2_freeBlock mvX2_freeBlock rfl (by decide) (Nat.le_of_ble_eq_true rfl) (xChk_1 h_c) rfl rfl (tX2_freeBlock (xChk_v h_c) h) (fun rr M22 qq => ?_)
    obtain ⟨r22, rfl, h⟩ := qq
    show Gx l E mX0_cloneFor _ 25 M22 [some (.ref c), some (.int p1), some (.int p2), none] [.int r22]
    refine Gx_mask [true, false, true, false] (L' := [some (.ref c), none, some (.int p2), none]) rfl ?_
    exact tX0_cloneFor_25 h_c  M22 r22 h
  · have h := h.2 z
    refine Gx_run (es := eX0_cloneFor_13) (P := []) (M' := M) (L' := [some (.ref c), some (.int p1), some (.int p2), none]) (st' := [.int (-9 : Int32)]) (pc' := 15) kX0_cloneFor_13 rfl trivial rfl ?_
    refine Gx_goto (off := 10) (tgt := 25) (by decide +kernel) (by decide) ?_
    refine Gx_mask [true, false, true, false] (L' := [some (.ref c), none, some (.int p2), none]) rfl ?_
    exact tX0_cloneFor_25 h_c  M (-9 : Int32) h
