/-! walks: X3_worst, X4_check, X4_damage, X4_isSo, X4_judge -/
def eX3_worst_0 : List xI := [(.aload_n 0, 1, 0, 0, 0), (.getfield 33, 3, 3, 5, 0), (.aload_n 0, 1, 0, 0, 0), (.getfield 10, 3, 3, 0, 0), (.aload_n 0, 1, 0, 0, 0), (.getfield 57, 3, 3, 11, 0)]
theorem kX3_worst_0 : xcode (xmb mX3_worst) (xmo mX3_worst) 0 eX3_worst_0 = true := by decide +kernel
def eX3_worst_15 : List xI := [(.iconst 0, 1, 0, 0, (0)), (.istore_n 1, 1, 0, 0, 0), (.bipush (-9), 2, 0, 0, (-9)), (.istore_n 2, 1, 0, 0, 0), (.iconst 1, 1, 0, 0, (1)), (.istore_n 3, 1, 0, 0, 0)]
theorem kX3_worst_15 : xcode (xmb mX3_worst) (xmo mX3_worst) 15 eX3_worst_15 = true := by decide +kernel
def eX3_worst_22 : List xI := [(.iload_n 3, 1, 0, 0, 0), (.bipush 16, 2, 0, 0, (16))]
theorem kX3_worst_22 : xcode (xmb mX3_worst) (xmo mX3_worst) 22 eX3_worst_22 = true := by decide +kernel
def eX3_worst_55 : List xI := [(.iload_n 2, 1, 0, 0, 0)]
theorem kX3_worst_55 : xcode (xmb mX3_worst) (xmo mX3_worst) 55 eX3_worst_55 = true := by decide +kernel
def eX3_worst_28 : List xI := [(.aload_n 0, 1, 0, 0, 0), (.getfield 33, 3, 3, 5, 0), (.iload_n 3, 1, 0, 0, 0)]
theorem kX3_worst_28 : xcode (xmb mX3_worst) (xmo mX3_worst) 28 eX3_worst_28 = true := by decide +kernel
def eX3_worst_36 : List xI := [(.istore 4, 2, 0, 0, 0), (.iload 4, 2, 0, 0, 0), (.iload_n 1, 1, 0, 0, 0)]
theorem kX3_worst_36 : xcode (xmb mX3_worst) (xmo mX3_worst) 36 eX3_worst_36 = true := by decide +kernel
def eX3_worst_49 : List xI := [(.iinc 3 1, 3, 0, 0, (1))]
theorem kX3_worst_49 : xcode (xmb mX3_worst) (xmo mX3_worst) 49 eX3_worst_49 = true := by decide +kernel
def eX3_worst_44 : List xI := [(.iload 4, 2, 0, 0, 0), (.istore_n 1, 1, 0, 0, 0), (.iload_n 3, 1, 0, 0, 0), (.istore_n 2, 1, 0, 0, 0)]
theorem kX3_worst_44 : xcode (xmb mX3_worst) (xmo mX3_worst) 44 eX3_worst_44 = true := by decide +kernel
def wX3_worst_49 (Q : Int32 → xM → Prop) (k22 : xM → Int32 → Int32 → Int32 → Prop) (M : xM) (a1 : Int32) (a2 : Int32) (a3 : Int32) : Prop :=
    k22 M a1 a2 (a3 + (1 : Int32))
set_option maxHeartbeats 4000000 in
set_option maxRecDepth 100000 in
theorem tX3_worst_49 {l : Launch} {E : xE} {Q : Int32 → xM → Prop} {k22 : xM → Int32 → Int32 → Int32 → Prop} (hk22 : ∀ (M : xM) (a1 : Int32) (a2 : Int32) (a3 : Int32), k22 M a1 a2 a3 → Gx l E mX3_worst (xRi Q) 22 M [some (.ref 0), some (.int a1), some (.int a2), some (.int a3), none] []) (M : xM) (a1 : Int32) (a2 : Int32) (a3 : Int32) (h : wX3_worst_49  Q k22 M a1 a2 a3) : Gx l E mX3_worst (xRi Q) 49 M [some (.ref 0), some (.int a1), some (.int a2), some (.int a3), none] [] := by
  unfold wX3_worst_49 at h
  refine Gx_run (es := eX3_worst_49) (P := []) (M' := M) (L' := [some (.ref 0), some (.int a1), some (.int a2), some (.int (a3 + (1 : Int32))), none]) (st' := []) (pc' := 52) kX3_worst_49 rfl trivial rfl ?_
  refine Gx_goto (off := -30) (tgt := 22) (by decide +kernel) (by decide) ?_
  refine Gx_mask [true, true, true, true, false] (L' := [some (.ref 0), some (.int a1), some (.int a2), some (.int (a3 + (1 : Int32))), none]) rfl ?_
  exact hk22 M a1 a2 (a3 + (1 : Int32)) h
def lX3_worst_22 (Q : Int32 → xM → Prop) : Nat → xM → Int32 → Int32 → Int32 → Prop
  | 0 => fun _ _ _ _ => False
  | n + 1 => let k22 := lX3_worst_22  Q n; fun M a1 a2 a3 =>
    ((((16 : Int32) < a3) → (Q a2 M)) ∧ ((¬ (16 : Int32) < a3) → (wX0_askedFor M 22 a3 (fun r33 M33 => (((r33 ≤ a1) → (wX3_worst_49  Q k22 M33 a1 a2 a3)) ∧ ((¬ r33 ≤ a1) → (wX3_worst_49  Q k22 M33 r33 a3 a3)))))))
set_option maxHeartbeats 4000000 in
set_option maxRecDepth 100000 in
theorem tX3_worst_22 {l : Launch} {E : xE} {Q : Int32 → xM → Prop} (n : Nat) : ∀ (M : xM) (a1 : Int32) (a2 : Int32) (a3 : Int32), lX3_worst_22  Q n M a1 a2 a3 → Gx l E mX3_worst (xRi Q) 22 M [some (.ref 0), some (.int a1), some (.int a2), some (.int a3), none] [] := by
  induction n with
  | zero => intro M a1 a2 a3 h; exact h.elim
  | succ n hk22 =>
      intro M a1 a2 a3 h
      unfold lX3_worst_22 at h
      dsimp only at h
      refine Gx_run (es := eX3_worst_22) (P := []) (M' := M) (L' := [some (.ref 0), some (.int a1), some (.int a2), some (.int a3), none]) (st' := [.int (16 : Int32), .int a3]) (pc' := 25) kX3_worst_22 rfl trivial rfl ?_
      refine Gx_icmp_gt (off := 30) (tgt := 55) (by decide +kernel) (by decide) (fun z => ?_) (fun z => ?_)
      · have h := h.1 z
        refine Gx_run (es := eX3_worst_55) (P := []) (M' := M) (L' := [some (.ref 0), some (.int a1), some (.int a2), some (.int a3), none]) (st' := [.int a2]) (pc' := 56) kX3_worst_55 rfl trivial rfl ?_
        exact Gx_iret (by decide +kernel) rfl rfl ⟨_, rfl, h⟩
      · have h := h.2 z
        refine Gx_run (es := eX3_worst_28) (P := [xkd 0 = 3]) (M' := M) (L' := [some (.ref 0), some (.int a1), some (.int a2), some (.int a3), none]) (st' := [.int a3, .ref 22]) (pc' := 33) kX3_worst_28 rfl ⟨rfl, trivial⟩ rfl ?_
        refine Gx_callV (As := [.int a3]) (by decide +kernel) ml_3_147 okX0_askedFor mvX0_askedFor rfl (by decide) (Nat.le_of_ble_eq_true rfl) rfl rfl rfl (tX0_askedFor xChk_at22 h) (fun rr M33 qq => ?_)
        obtain ⟨r33, rfl, h⟩ := qq
        show Gx l E mX3_worst _ 36 M33 [some (.ref 0), some (.int a1), some (.int a2), some (.int a3), none] [.int r33]
        refine Gx_run (es := eX3_worst_36) (P := []) (M' := M33) (L' := [some (.ref 0), some (.int a1), some (.int a2), some (.int a3), some (.int r33)]) (st' := [.int a1, .int r33]) (pc' := 41) kX3_worst_36 rfl trivial rfl ?_
        refine Gx_icmp_le (off := 8) (tgt := 49) (by decide +kernel) (by decide) (fun z => ?_) (fun z => ?_)
        · have h := h.1 z
          refine Gx_mask [true, true, true, true, false] (L' := [some (.ref 0), some (.int a1), some (.int a2), some (.int a3), none]) rfl ?_
          exact tX3_worst_49  hk22 M33 a1 a2 a3 h
        · have h := h.2 z
          refine Gx_run (es := eX3_worst_44) (P := []) (M' := M33) (L' := [some (.ref 0), some (.int r33), some (.int a3), some (.int a3), some (.int r33)]) (st' := []) (pc' := 49) kX3_worst_44 rfl trivial rfl ?_
          refine Gx_mask [true, true, true, true, false] (L' := [some (.ref 0), some (.int r33), some (.int a3), some (.int a3), none]) rfl ?_
          exact tX3_worst_49  hk22 M33 r33 a3 a3 h
def wX3_worst (M : xM) (Q : Int32 → xM → Prop) : Prop :=
    wX0_run M 22 1 (M 0 11) (fun M12 => (∃ n : Nat, lX3_worst_22  Q n M12 (0 : Int32) (-9 : Int32) (1 : Int32)))
set_option maxHeartbeats 4000000 in
set_option maxRecDepth 100000 in
theorem tX3_worst {l : Launch} {E : xE} {M : xM} {Q : Int32 → xM → Prop} (h : wX3_worst M  Q) : Ct l E mX3_worst [.ref 0] M (xRi Q) := by
  refine Ct_of (by decide +kernel) rfl (Nat.le_of_ble_eq_true rfl) ?_
  unfold wX3_worst at h
  show Gx l E mX3_worst (xRi Q) 0 M [some (.ref 0), none, none, none, none] []
  refine Gx_run (es := eX3_worst_0) (P := [xkd 0 = 3, xkd 0 = 3, xkd 0 = 3]) (M' := M) (L' := [some (.ref 0), none, none, none, none]) (st' := [.int (M 0 11), .ref 1, .ref 22]) (pc' := 12) kX3_worst_0 rfl ⟨rfl, rfl, rfl, trivial⟩ rfl ?_
  refine Gx_callV (As := [.ref 1, .int (M 0 11)]) (by decide +kernel) ml_3_133 okX0_run mvX0_run rfl (by decide) (Nat.le_of_ble_eq_true rfl) rfl rfl rfl (tX0_run xChk_at22 xVol_at1 h) (fun rr M12 qq => ?_)
  obtain ⟨rfl, h⟩ := qq
  show Gx l E mX3_worst _ 15 M12 [some (.ref 0), none, none, none, none] []
  refine Gx_run (es := eX3_worst_15) (P := []) (M' := M12) (L' := [some (.ref 0), some (.int (0 : Int32)), some (.int (-9 : Int32)), some (.int (1 : Int32)), none]) (st' := []) (pc' := 22) kX3_worst_15 rfl trivial rfl ?_
  refine Gx_mask [true, true, true, true, false] (L' := [some (.ref 0), some (.int (0 : Int32)), some (.int (-9 : Int32)), some (.int (1 : Int32)), none]) rfl ?_
  obtain ⟨n, h⟩ := h
  exact tX3_worst_22  n M12 (0 : Int32) (-9 : Int32) (1 : Int32) h
def eX4_check_0 : List xI := [(.aload_n 0, 1, 0, 0, 0)]
theorem kX4_check_0 : xcode (xmb mX4_check) (xmo mX4_check) 0 eX4_check_0 = true := by decide +kernel
def wX4_check (M : xM) (Q : Int32 → xM → Prop) : Prop :=
    wX4_checks M (fun r1 M1 => Q r1 M1)
set_option maxHeartbeats 4000000 in
set_option maxRecDepth 100000 in
theorem tX4_check {l : Launch} {E : xE} {M : xM} {Q : Int32 → xM → Prop} (h : wX4_check M  Q) : Ct l E mX4_check [.ref 50] M (xRi Q) := by
  refine Ct_of (by decide +kernel) rfl (Nat.le_of_ble_eq_true rfl) ?_
  unfold wX4_check at h
  show Gx l E mX4_check (xRi Q) 0 M [some (.ref 50)] []
  refine Gx_run (es := eX4_check_0) (P := []) (M' := M) (L' := [some (.ref 50)]) (st' := [.ref 50]) (pc' := 1) kX4_check_0 rfl trivial rfl ?_
  refine Gx_callV (As := []) (by decide +kernel) ml_4_100 okX4_checks mvX4_checks rfl (by decide) (Nat.le_of_ble_eq_true rfl) rfl rfl rfl (tX4_checks h) (fun rr M1 qq => ?_)
  obtain ⟨r1, rfl, h⟩ := qq
  show Gx l E mX4_check _ 4 M1 [some (.ref 50)] [.int r1]
  exact Gx_iret (by decide +kernel) rfl rfl ⟨_, rfl, h⟩
def eX4_damage_0 : List xI := [(.iload_n 1, 1, 0, 0, 0)]
theorem kX4_damage_0 : xcode (xmb mX4_damage) (xmo mX4_damage) 0 eX4_damage_0 = true := by decide +kernel
def eX4_damage_9 : List xI := [(.aload_n 0, 1, 0, 0, 0), (.bipush (-4), 2, 0, 0, (-4))]
theorem kX4_damage_9 : xcode (xmb mX4_damage) (xmo mX4_damage) 9 eX4_damage_9 = true := by decide +kernel
def eX4_damage_4 : List xI := [(.iload_n 2, 1, 0, 0, 0), (.iconst 2, 1, 0, 0, (2))]
theorem kX4_damage_4 : xcode (xmb mX4_damage) (xmo mX4_damage) 4 eX4_damage_4 = true := by decide +kernel
def eX4_damage_16 : List xI := [(.iload_n 1, 1, 0, 0, 0), (.bipush 10, 2, 0, 0, (10))]
theorem kX4_damage_16 : xcode (xmb mX4_damage) (xmo mX4_damage) 16 eX4_damage_16 = true := by decide +kernel
def eX4_damage_28 : List xI := [(.aload_n 0, 1, 0, 0, 0), (.bipush (-6), 2, 0, 0, (-6))]
theorem kX4_damage_28 : xcode (xmb mX4_damage) (xmo mX4_damage) 28 eX4_damage_28 = true := by decide +kernel
def eX4_damage_22 : List xI := [(.iload_n 2, 1, 0, 0, 0), (.bipush 20, 2, 0, 0, (20))]
theorem kX4_damage_22 : xcode (xmb mX4_damage) (xmo mX4_damage) 22 eX4_damage_22 = true := by decide +kernel
def eX4_damage_35 : List xI := [(.iload_n 3, 1, 0, 0, 0), (.iconst 0, 1, 0, 0, (0)), (.iconst 1, 1, 0, 0, (1))]
theorem kX4_damage_35 : xcode (xmb mX4_damage) (xmo mX4_damage) 35 eX4_damage_35 = true := by decide +kernel
def eX4_damage_51 : List xI := [(.aload_n 0, 1, 0, 0, 0)]
theorem kX4_damage_51 : xcode (xmb mX4_damage) (xmo mX4_damage) 51 eX4_damage_51 = true := by decide +kernel
def eX4_damage_55 : List xI := [(.lconst 0, 1, 0, 0, 0), (.lstore 4, 2, 0, 0, 0), (.lconst 0, 1, 0, 0, 0), (.lstore 6, 2, 0, 0, 0), (.iconst 0, 1, 0, 0, (0)), (.istore 8, 2, 0, 0, 0)]
theorem kX4_damage_55 : xcode (xmb mX4_damage) (xmo mX4_damage) 55 eX4_damage_55 = true := by decide +kernel
def eX4_damage_64 : List xI := [(.iload 8, 2, 0, 0, 0), (.bipush 64, 2, 0, 0, (64))]
theorem kX4_damage_64 : xcode (xmb mX4_damage) (xmo mX4_damage) 64 eX4_damage_64 = true := by decide +kernel
def eX4_damage_181 : List xI := [(.aload_n 0, 1, 0, 0, 0)]
theorem kX4_damage_181 : xcode (xmb mX4_damage) (xmo mX4_damage) 181 eX4_damage_181 = true := by decide +kernel
def eX4_damage_185 : List xI := [(.lload 4, 2, 0, 0, 0), (.lload 6, 2, 0, 0, 0), (.iload_n 3, 1, 0, 0, 0)]
theorem kX4_damage_185 : xcode (xmb mX4_damage) (xmo mX4_damage) 185 eX4_damage_185 = true := by decide +kernel
def eX4_damage_71 : List xI := [(.aload_n 0, 1, 0, 0, 0)]
theorem kX4_damage_71 : xcode (xmb mX4_damage) (xmo mX4_damage) 71 eX4_damage_71 = true := by decide +kernel
def eX4_damage_75 : List xI := [(.lconst 1, 1, 0, 0, 0), (.lstore 9, 2, 0, 0, 0), (.iconst 0, 1, 0, 0, (0)), (.istore 11, 2, 0, 0, 0)]
theorem kX4_damage_75 : xcode (xmb mX4_damage) (xmo mX4_damage) 75 eX4_damage_75 = true := by decide +kernel
def eX4_damage_81 : List xI := [(.iload 11, 2, 0, 0, 0), (.bipush 6, 2, 0, 0, (6))]
theorem kX4_damage_81 : xcode (xmb mX4_damage) (xmo mX4_damage) 81 eX4_damage_81 = true := by decide +kernel
def eX4_damage_144 : List xI := [(.aload_n 0, 1, 0, 0, 0)]
theorem kX4_damage_144 : xcode (xmb mX4_damage) (xmo mX4_damage) 144 eX4_damage_144 = true := by decide +kernel
def eX4_damage_148 : List xI := [(.pop, 1, 0, 0, 0), (.lload 4, 2, 0, 0, 0), (.aload_n 0, 1, 0, 0, 0)]
theorem kX4_damage_148 : xcode (xmb mX4_damage) (xmo mX4_damage) 148 eX4_damage_148 = true := by decide +kernel
def eX4_damage_155 : List xI := [(.iload_n 1, 1, 0, 0, 0)]
theorem kX4_damage_155 : xcode (xmb mX4_damage) (xmo mX4_damage) 155 eX4_damage_155 = true := by decide +kernel
def eX4_damage_164 : List xI := [(.lconst 0, 1, 0, 0, 0)]
theorem kX4_damage_164 : xcode (xmb mX4_damage) (xmo mX4_damage) 164 eX4_damage_164 = true := by decide +kernel
def eX4_damage_165 : List xI := [(.ladd, 1, 0, 0, 0), (.lstore 4, 2, 0, 0, 0), (.lload 6, 2, 0, 0, 0), (.lload 9, 2, 0, 0, 0), (.ladd, 1, 0, 0, 0), (.lstore 6, 2, 0, 0, 0), (.iinc 8 1, 3, 0, 0, (1))]
theorem kX4_damage_165 : xcode (xmb mX4_damage) (xmo mX4_damage) 165 eX4_damage_165 = true := by decide +kernel
def eX4_damage_159 : List xI := [(.lload 9, 2, 0, 0, 0)]
theorem kX4_damage_159 : xcode (xmb mX4_damage) (xmo mX4_damage) 159 eX4_damage_159 = true := by decide +kernel
def eX4_damage_88 : List xI := [(.iload 8, 2, 0, 0, 0), (.iload 11, 2, 0, 0, 0), (.ishr, 1, 0, 0, 0), (.iconst 1, 1, 0, 0, (1)), (.iand, 1, 0, 0, 0), (.iconst 1, 1, 0, 0, (1))]
theorem kX4_damage_88 : xcode (xmb mX4_damage) (xmo mX4_damage) 88 eX4_damage_88 = true := by decide +kernel
def eX4_damage_103 : List xI := [(.iconst 0, 1, 0, 0, (0))]
theorem kX4_damage_103 : xcode (xmb mX4_damage) (xmo mX4_damage) 103 eX4_damage_103 = true := by decide +kernel
def eX4_damage_104 : List xI := [(.istore 12, 2, 0, 0, 0), (.lload 9, 2, 0, 0, 0), (.iload 12, 2, 0, 0, 0)]
theorem kX4_damage_104 : xcode (xmb mX4_damage) (xmo mX4_damage) 104 eX4_damage_104 = true := by decide +kernel
def eX4_damage_117 : List xI := [(.iload_n 2, 1, 0, 0, 0), (.iconst 1, 1, 0, 0, (1)), (.isub, 1, 0, 0, 0), (.i2l, 1, 0, 0, 0)]
theorem kX4_damage_117 : xcode (xmb mX4_damage) (xmo mX4_damage) 117 eX4_damage_117 = true := by decide +kernel
def eX4_damage_121 : List xI := [(.lmul, 1, 0, 0, 0), (.lstore 9, 2, 0, 0, 0), (.iload 12, 2, 0, 0, 0)]
theorem kX4_damage_121 : xcode (xmb mX4_damage) (xmo mX4_damage) 121 eX4_damage_121 = true := by decide +kernel
def eX4_damage_138 : List xI := [(.iinc 11 1, 3, 0, 0, (1))]
theorem kX4_damage_138 : xcode (xmb mX4_damage) (xmo mX4_damage) 138 eX4_damage_138 = true := by decide +kernel
def eX4_damage_129 : List xI := [(.aload_n 0, 1, 0, 0, 0), (.iload 11, 2, 0, 0, 0), (.iconst 1, 1, 0, 0, (1)), (.iadd, 1, 0, 0, 0), (.iconst 0, 1, 0, 0, (0))]
theorem kX4_damage_129 : xcode (xmb mX4_damage) (xmo mX4_damage) 129 eX4_damage_129 = true := by decide +kernel
def eX4_damage_113 : List xI := [(.lconst 1, 1, 0, 0, 0)]
theorem kX4_damage_113 : xcode (xmb mX4_damage) (xmo mX4_damage) 113 eX4_damage_113 = true := by decide +kernel
def eX4_damage_99 : List xI := [(.iconst 1, 1, 0, 0, (1))]
theorem kX4_damage_99 : xcode (xmb mX4_damage) (xmo mX4_damage) 99 eX4_damage_99 = true := by decide +kernel
def eX4_damage_44 : List xI := [(.aload_n 0, 1, 0, 0, 0), (.bipush (-2), 2, 0, 0, (-2))]
theorem kX4_damage_44 : xcode (xmb mX4_damage) (xmo mX4_damage) 44 eX4_damage_44 = true := by decide +kernel
def wX4_damage_9 (p1 : Int32) (p2 : Int32) (p3 : Int32) (Q : Int64 → xM → Prop) (M : xM) : Prop :=
    wX4_refusedLong M (-4 : Int32) (fun r12 M12 => Q r12 M12)
set_option maxHeartbeats 4000000 in
set_option maxRecDepth 100000 in
theorem tX4_damage_9 {l : Launch} {E : xE} {p1 : Int32} {p2 : Int32} {p3 : Int32} {Q : Int64 → xM → Prop} (M : xM) (h : wX4_damage_9 p1 p2 p3 Q M ) : Gx l E mX4_damage (xRj Q) 9 M [some (.ref 50), none, none, none, none, none, none, none, none, none, none, none, none] [] := by
  unfold wX4_damage_9 at h
  refine Gx_run (es := eX4_damage_9) (P := []) (M' := M) (L' := [some (.ref 50), none, none, none, none, none, none, none, none, none, none, none, none]) (st' := [.int (-4 : Int32), .ref 50]) (pc' := 12) kX4_damage_9 rfl trivial rfl ?_
  refine Gx_callV (As := [.int (-4 : Int32)]) (by decide +kernel) ml_4_226 okX4_refusedLong mvX4_refusedLong rfl (by decide) (Nat.le_of_ble_eq_true rfl) rfl rfl rfl (tX4_refusedLong h) (fun rr M12 qq => ?_)
  obtain ⟨r12, rfl, h⟩ := qq
  show Gx l E mX4_damage _ 15 M12 [some (.ref 50), none, none, none, none, none, none, none, none, none, none, none, none] [.long r12]
  exact Gx_lret (by decide +kernel) rfl ⟨_, rfl, h⟩
def wX4_damage_28 (p1 : Int32) (p2 : Int32) (p3 : Int32) (Q : Int64 → xM → Prop) (M : xM) : Prop :=
    wX4_refusedLong M (-6 : Int32) (fun r31 M31 => Q r31 M31)
set_option maxHeartbeats 4000000 in
set_option maxRecDepth 100000 in
theorem tX4_damage_28 {l : Launch} {E : xE} {p1 : Int32} {p2 : Int32} {p3 : Int32} {Q : Int64 → xM → Prop} (M : xM) (h : wX4_damage_28 p1 p2 p3 Q M ) : Gx l E mX4_damage (xRj Q) 28 M [some (.ref 50), none, none, none, none, none, none, none, none, none, none, none, none] [] := by
  unfold wX4_damage_28 at h
  refine Gx_run (es := eX4_damage_28) (P := []) (M' := M) (L' := [some (.ref 50), none, none, none, none, none, none, none, none, none, none, none, none]) (st' := [.int (-6 : Int32), .ref 50]) (pc' := 31) kX4_damage_28 rfl trivial rfl ?_
  refine Gx_callV (As := [.int (-6 : Int32)]) (by decide +kernel) ml_4_226 okX4_refusedLong mvX4_refusedLong rfl (by decide) (Nat.le_of_ble_eq_true rfl) rfl rfl rfl (tX4_refusedLong h) (fun rr M31 qq => ?_)
  obtain ⟨r31, rfl, h⟩ := qq
  show Gx l E mX4_damage _ 34 M31 [some (.ref 50), none, none, none, none, none, none, none, none, none, none, none, none] [.long r31]
  exact Gx_lret (by decide +kernel) rfl ⟨_, rfl, h⟩
def wX4_damage_165 (p1 : Int32) (p2 : Int32) (p3 : Int32) (Q : Int64 → xM → Prop) (k64 : xM → Int64 → Int64 → Int32 → Prop) (M : xM) (a6 : Int64) (a8 : Int32) (a9 : Int64) (s0 : Int64) (s1 : Int64) : Prop :=
    k64 M (s1 + s0) (a6 + a9) (a8 + (1 : Int32))
set_option maxHeartbeats 4000000 in
set_option maxRecDepth 100000 in
theorem tX4_damage_165 {l : Launch} {E : xE} {p1 : Int32} {p2 : Int32} {p3 : Int32} {Q : Int64 → xM → Prop} {k64 : xM → Int64 → Int64 → Int32 → Prop} (hk64 : ∀ (M : xM) (a4 : Int64) (a6 : Int64) (a8 : Int32), k64 M a4 a6 a8 → Gx l E mX4_damage (xRj Q) 64 M [some (.ref 50), some (.int p1), some (.int p2), some (.int p3), some (.long a4), none, some (.long a6), none, some (.int a8), none, none, none, none] []) (M : xM) (a6 : Int64) (a8 : Int32) (a9 : Int64) (s0 : Int64) (s1 : Int64) (h : wX4_damage_165 p1 p2 p3 Q k64 M a6 a8 a9 s0 s1) : Gx l E mX4_damage (xRj Q) 165 M [some (.ref 50), some (.int p1), some (.int p2), some (.int p3), none, none, some (.long a6), none, some (.int a8), some (.long a9), none, none, none] [.long s0, .long s1] := by
  unfold wX4_damage_165 at h
  refine Gx_run (es := eX4_damage_165) (P := []) (M' := M) (L' := [some (.ref 50), some (.int p1), some (.int p2), some (.int p3), some (.long (s1 + s0)), none, some (.long (a6 + a9)), none, some (.int (a8 + (1 : Int32))), some (.long a9), none, none, none]) (st' := []) (pc' := 178) kX4_damage_165 rfl trivial rfl ?_
  refine Gx_goto (off := -114) (tgt := 64) (by decide +kernel) (by decide) ?_
  refine Gx_mask [true, true, true, true, true, false, true, false, true, false, false, false, false] (L' := [some (.ref 50), some (.int p1), some (.int p2), some (.int p3), some (.long (s1 + s0)), none, some (.long (a6 + a9)), none, some (.int (a8 + (1 : Int32))), none, none, none, none]) rfl ?_
  exact hk64 M (s1 + s0) (a6 + a9) (a8 + (1 : Int32)) h
def wX4_damage_138 (p1 : Int32) (p2 : Int32) (p3 : Int32) (Q : Int64 → xM → Prop) (k64 : xM → Int64 → Int64 → Int32 → Prop) (k81 : xM → Int64 → Int64 → Int32 → Int64 → Int32 → Prop) (M : xM) (a4 : Int64) (a6 : Int64) (a8 : Int32) (a9 : Int64) (a11 : Int32) : Prop :=
    k81 M a4 a6 a8 a9 (a11 + (1 : Int32))
set_option maxHeartbeats 4000000 in
set_option maxRecDepth 100000 in
theorem tX4_damage_138 {l : Launch} {E : xE} {p1 : Int32} {p2 : Int32} {p3 : Int32} {Q : Int64 → xM → Prop} {k64 : xM → Int64 → Int64 → Int32 → Prop} {k81 : xM → Int64 → Int64 → Int32 → Int64 → Int32 → Prop} (hk64 : ∀ (M : xM) (a4 : Int64) (a6 : Int64) (a8 : Int32), k64 M a4 a6 a8 → Gx l E mX4_damage (xRj Q) 64 M [some (.ref 50), some (.int p1), some (.int p2), some (.int p3), some (.long a4), none, some (.long a6), none, some (.int a8), none, none, none, none] []) (hk81 : ∀ (M : xM) (a4 : Int64) (a6 : Int64) (a8 : Int32) (a9 : Int64) (a11 : Int32), k81 M a4 a6 a8 a9 a11 → Gx l E mX4_damage (xRj Q) 81 M [some (.ref 50), some (.int p1), some (.int p2), some (.int p3), some (.long a4), none, some (.long a6), none, some (.int a8), some (.long a9), none, some (.int a11), none] []) (M : xM) (a4 : Int64) (a6 : Int64) (a8 : Int32) (a9 : Int64) (a11 : Int32) (h : wX4_damage_138 p1 p2 p3 Q k64 k81 M a4 a6 a8 a9 a11) : Gx l E mX4_damage (xRj Q) 138 M [some (.ref 50), some (.int p1), some (.int p2), some (.int p3), some (.long a4), none, some (.long a6), none, some (.int a8), some (.long a9), none, some (.int a11), none] [] := by
  unfold wX4_damage_138 at h
  refine Gx_run (es := eX4_damage_138) (P := []) (M' := M) (L' := [some (.ref 50), some (.int p1), some (.int p2), some (.int p3), some (.long a4), none, some (.long a6), none, some (.int a8), some (.long a9), none, some (.int (a11 + (1 : Int32))), none]) (st' := []) (pc' := 141) kX4_damage_138 rfl trivial rfl ?_
  refine Gx_goto (off := -60) (tgt := 81) (by decide +kernel) (by decide) ?_
  refine Gx_mask [true, true, true, true, true, false, true, false, true, true, false, true, false] (L' := [some (.ref 50), some (.int p1), some (.int p2), some (.int p3), some (.long a4), none, some (.long a6), none, some (.int a8), some (.long a9), none, some (.int (a11 + (1 : Int32))), none]) rfl ?_
  exact hk81 M a4 a6 a8 a9 (a11 + (1 : Int32)) h
def wX4_damage_121 (p1 : Int32) (p2 : Int32) (p3 : Int32) (Q : Int64 → xM → Prop) (k64 : xM → Int64 → Int64 → Int32 → Prop) (k81 : xM → Int64 → Int64 → Int32 → Int64 → Int32 → Prop) (M : xM) (a4 : Int64) (a6 : Int64) (a8 : Int32) (a11 : Int32) (a12 : Int32) (s0 : Int64) (s1 : Int64) : Prop :=
    (((a12 = 0) → (wX4_damage_138 p1 p2 p3 Q k64 k81 M a4 a6 a8 (s1 * s0) a11)) ∧ ((¬ a12 = 0) → (wX4_wipes M (a11 + (1 : Int32)) (0 : Int32) (fun M135 => wX4_damage_138 p1 p2 p3 Q k64 k81 M135 a4 a6 a8 (s1 * s0) a11))))
set_option maxHeartbeats 4000000 in
set_option maxRecDepth 100000 in
theorem tX4_damage_121 {l : Launch} {E : xE} {p1 : Int32} {p2 : Int32} {p3 : Int32} {Q : Int64 → xM → Prop} {k64 : xM → Int64 → Int64 → Int32 → Prop} {k81 : xM → Int64 → Int64 → Int32 → Int64 → Int32 → Prop} (hk64 : ∀ (M : xM) (a4 : Int64) (a6 : Int64) (a8 : Int32), k64 M a4 a6 a8 → Gx l E mX4_damage (xRj Q) 64 M [some (.ref 50), some (.int p1), some (.int p2), some (.int p3), some (.long a4), none, some (.long a6), none, some (.int a8), none, none, none, none] []) (hk81 : ∀ (M : xM) (a4 : Int64) (a6 : Int64) (a8 : Int32) (a9 : Int64) (a11 : Int32), k81 M a4 a6 a8 a9 a11 → Gx l E mX4_damage (xRj Q) 81 M [some (.ref 50), some (.int p1), some (.int p2), some (.int p3), some (.long a4), none, some (.long a6), none, some (.int a8), some (.long a9), none, some (.int a11), none] []) (M : xM) (a4 : Int64) (a6 : Int64) (a8 : Int32) (a11 : Int32) (a12 : Int32) (s0 : Int64) (s1 : Int64) (h : wX4_damage_121 p1 p2 p3 Q k64 k81 M a4 a6 a8 a11 a12 s0 s1) : Gx l E mX4_damage (xRj Q) 121 M [some (.ref 50), some (.int p1), some (.int p2), some (.int p3), some (.long a4), none, some (.long a6), none, some (.int a8), none, none, some (.int a11), some (.int a12)] [.long s0, .long s1] := by
  unfold wX4_damage_121 at h
  refine Gx_run (es := eX4_damage_121) (P := []) (M' := M) (L' := [some (.ref 50), some (.int p1), some (.int p2), some (.int p3), some (.long a4), none, some (.long a6), none, some (.int a8), some (.long (s1 * s0)), none, some (.int a11), some (.int a12)]) (st' := [.int a12]) (pc' := 126) kX4_damage_121 rfl trivial rfl ?_
  refine Gx_if_eq (off := 12) (tgt := 138) (by decide +kernel) (by decide) (fun z => ?_) (fun z => ?_)
  · have h := h.1 z
    refine Gx_mask [true, true, true, true, true, false, true, false, true, true, false, true, false] (L' := [some (.ref 50), some (.int p1), some (.int p2), some (.int p3), some (.long a4), none, some (.long a6), none, some (.int a8), some (.long (s1 * s0)), none, some (.int a11), none]) rfl ?_
    exact tX4_damage_138  hk64 hk81 M a4 a6 a8 (s1 * s0) a11 h
  · have h := h.2 z
    refine Gx_run (es := eX4_damage_129) (P := []) (M' := M) (L' := [some (.ref 50), some (.int p1), some (.int p2), some (.int p3), some (.long a4), none, some (.long a6), none, some (.int a8), some (.long (s1 * s0)), none, some (.int a11), some (.int a12)]) (st' := [.int (0 : Int32), .int (a11 + (1 : Int32)), .ref 50]) (pc' := 135) kX4_damage_129 rfl trivial rfl ?_
    refine Gx_callV (As := [.int (a11 + (1 : Int32)), .int (0 : Int32)]) (by decide +kernel) ml_4_161 okX4_wipes mvX4_wipes rfl (by decide) (Nat.le_of_ble_eq_true rfl) rfl rfl rfl (tX4_wipes h) (fun rr M135 qq => ?_)
    obtain ⟨rfl, h⟩ := qq
    show Gx l E mX4_damage _ 138 M135 [some (.ref 50), some (.int p1), some (.int p2), some (.int p3), some (.long a4), none, some (.long a6), none, some (.int a8), some (.long (s1 * s0)), none, some (.int a11), some (.int a12)] []
    refine Gx_mask [true, true, true, true, true, false, true, false, true, true, false, true, false] (L' := [some (.ref 50), some (.int p1), some (.int p2), some (.int p3), some (.long a4), none, some (.long a6), none, some (.int a8), some (.long (s1 * s0)), none, some (.int a11), none]) rfl ?_
    exact tX4_damage_138  hk64 hk81 M135 a4 a6 a8 (s1 * s0) a11 h
def wX4_damage_104 (p1 : Int32) (p2 : Int32) (p3 : Int32) (Q : Int64 → xM → Prop) (k64 : xM → Int64 → Int64 → Int32 → Prop) (k81 : xM → Int64 → Int64 → Int32 → Int64 → Int32 → Prop) (M : xM) (a4 : Int64) (a6 : Int64) (a8 : Int32) (a9 : Int64) (a11 : Int32) (s0 : Int32) : Prop :=
    (((s0 = 0) → (wX4_damage_121 p1 p2 p3 Q k64 k81 M a4 a6 a8 a11 s0 (p2 - (1 : Int32)).toInt64 a9)) ∧ ((¬ s0 = 0) → (wX4_damage_121 p1 p2 p3 Q k64 k81 M a4 a6 a8 a11 s0 (1 : Int64) a9)))
set_option maxHeartbeats 4000000 in
set_option maxRecDepth 100000 in
theorem tX4_damage_104 {l : Launch} {E : xE} {p1 : Int32} {p2 : Int32} {p3 : Int32} {Q : Int64 → xM → Prop} {k64 : xM → Int64 → Int64 → Int32 → Prop} {k81 : xM → Int64 → Int64 → Int32 → Int64 → Int32 → Prop} (hk64 : ∀ (M : xM) (a4 : Int64) (a6 : Int64) (a8 : Int32), k64 M a4 a6 a8 → Gx l E mX4_damage (xRj Q) 64 M [some (.ref 50), some (.int p1), some (.int p2), some (.int p3), some (.long a4), none, some (.long a6), none, some (.int a8), none, none, none, none] []) (hk81 : ∀ (M : xM) (a4 : Int64) (a6 : Int64) (a8 : Int32) (a9 : Int64) (a11 : Int32), k81 M a4 a6 a8 a9 a11 → Gx l E mX4_damage (xRj Q) 81 M [some (.ref 50), some (.int p1), some (.int p2), some (.int p3), some (.long a4), none, some (.long a6), none, some (.int a8), some (.long a9), none, some (.int a11), none] []) (M : xM) (a4 : Int64) (a6 : Int64) (a8 : Int32) (a9 : Int64) (a11 : Int32) (s0 : Int32) (h : wX4_damage_104 p1 p2 p3 Q k64 k81 M a4 a6 a8 a9 a11 s0) : Gx l E mX4_damage (xRj Q) 104 M [some (.ref 50), some (.int p1), some (.int p2), some (.int p3), some (.long a4), none, some (.long a6), none, some (.int a8), some (.long a9), none, some (.int a11), none] [.int s0] := by
  unfold wX4_damage_104 at h
  refine Gx_run (es := eX4_damage_104) (P := []) (M' := M) (L' := [some (.ref 50), some (.int p1), some (.int p2), some (.int p3), some (.long a4), none, some (.long a6), none, some (.int a8), some (.long a9), none, some (.int a11), some (.int s0)]) (st' := [.int s0, .long a9]) (pc' := 110) kX4_damage_104 rfl trivial rfl ?_
  refine Gx_if_eq (off := 7) (tgt := 117) (by decide +kernel) (by decide) (fun z => ?_) (fun z => ?_)
  · have h := h.1 z
    refine Gx_run (es := eX4_damage_117) (P := []) (M' := M) (L' := [some (.ref 50), some (.int p1), some (.int p2), some (.int p3), some (.long a4), none, some (.long a6), none, some (.int a8), some (.long a9), none, some (.int a11), some (.int s0)]) (st' := [.long (p2 - (1 : Int32)).toInt64, .long a9]) (pc' := 121) kX4_damage_117 rfl trivial rfl ?_
    refine Gx_mask [true, true, true, true, true, false, true, false, true, false, false, true, true] (L' := [some (.ref 50), some (.int p1), some (.int p2), some (.int p3), some (.long a4), none, some (.long a6), none, some (.int a8), none, none, some (.int a11), some (.int s0)]) rfl ?_
    exact tX4_damage_121  hk64 hk81 M a4 a6 a8 a11 s0 (p2 - (1 : Int32)).toInt64 a9 h
  · have h := h.2 z
    refine Gx_run (es := eX4_damage_113) (P := []) (M' := M) (L' := [some (.ref 50), some (.int p1), some (.int p2), some (.int p3), some (.long a4), none, some (.long a6), none, some (.int a8), some (.long a9), none, some (.int a11), some (.int s0)]) (st' := [.long (1 : Int64), .long a9]) (pc' := 114) kX4_damage_113 rfl trivial rfl ?_
    refine Gx_goto (off := 7) (tgt := 121) (by decide +kernel) (by decide) ?_
    refine Gx_mask [true, true, true, true, true, false, true, false, true, false, false, true, true] (L' := [some (.ref 50), some (.int p1), some (.int p2), some (.int p3), some (.long a4), none, some (.long a6), none, some (.int a8), none, none, some (.int a11), some (.int s0)]) rfl ?_
    exact tX4_damage_121  hk64 hk81 M a4 a6 a8 a11 s0 (1 : Int64) a9 h
def lX4_damage_81 (p1 : Int32) (p2 : Int32) (p3 : Int32) (Q : Int64 → xM → Prop) (k64 : xM → Int64 → Int64 → Int32 → Prop) : Nat → xM → Int64 → Int64 → Int32 → Int64 → Int32 → Prop
  | 0 => fun _ _ _ _ _ _ => False
  | n + 1 => let k81 := lX4_damage_81 p1 p2 p3 Q k64 n; fun M a4 a6 a8 a9 a11 =>
    ((((6 : Int32) ≤ a11) → (wX4_checks M (fun r145 M145 => wX4_inodes M145 (fun r152 M152 => (((r152 < p1) → (wX4_damage_165 p1 p2 p3 Q k64 M152 a6 a8 a9 (0 : Int64) a4)) ∧ ((¬ r152 < p1) → (wX4_damage_165 p1 p2 p3 Q k64 M152 a6 a8 a9 a9 a4))))))) ∧ ((¬ (6 : Int32) ≤ a11) → ((((¬ ((a8 >>> (a11 &&& 31)) &&& (1 : Int32)) = (1 : Int32)) → (wX4_damage_104 p1 p2 p3 Q k64 k81 M a4 a6 a8 a9 a11 (0 : Int32))) ∧ ((((a8 >>> (a11 &&& 31)) &&& (1 : Int32)) = (1 : Int32)) → (wX4_damage_104 p1 p2 p3 Q k64 k81 M a4 a6 a8 a9 a11 (1 : Int32)))))))
set_option maxHeartbeats 4000000 in
set_option maxRecDepth 100000 in
theorem tX4_damage_81 {l : Launch} {E : xE} {p1 : Int32} {p2 : Int32} {p3 : Int32} {Q : Int64 → xM → Prop} {k64 : xM → Int64 → Int64 → Int32 → Prop} (hk64 : ∀ (M : xM) (a4 : Int64) (a6 : Int64) (a8 : Int32), k64 M a4 a6 a8 → Gx l E mX4_damage (xRj Q) 64 M [some (.ref 50), some (.int p1), some (.int p2), some (.int p3), some (.long a4), none, some (.long a6), none, some (.int a8), none, none, none, none] []) (n : Nat) : ∀ (M : xM) (a4 : Int64) (a6 : Int64) (a8 : Int32) (a9 : Int64) (a11 : Int32), lX4_damage_81 p1 p2 p3 Q k64 n M a4 a6 a8 a9 a11 → Gx l E mX4_damage (xRj Q) 81 M [some (.ref 50), some (.int p1), some (.int p2), some (.int p3), some (.long a4), none, some (.long a6), none, some (.int a8), some (.long a9), none, some (.int a11), none] [] := by
  induction n with
  | zero => intro M a4 a6 a8 a9 a11 h; exact h.elim
  | succ n hk81 =>
      intro M a4 a6 a8 a9 a11 h
      unfold lX4_damage_81 at h
      dsimp only at h
      refine Gx_run (es := eX4_damage_81) (P := []) (M' := M) (L' := [some (.ref 50), some (.int p1), some (.int p2), some (.int p3), some (.long a4), none, some (.long a6), none, some (.int a8), some (.long a9), none, some (.int a11), none]) (st' := [.int (6 : Int32), .int a11]) (pc' := 85) kX4_damage_81 rfl trivial rfl ?_
      refine Gx_icmp_ge (off := 59) (tgt := 144) (by decide +kernel) (by decide) (fun z => ?_) (fun z => ?_)
      · have h := h.1 z
        refine Gx_run (es := eX4_damage_144) (P := []) (M' := M) (L' := [some (.ref 50), some (.int p1), some (.int p2), some (.int p3), some (.long a4), none, some (.long a6), none, some (.int a8), some (.long a9), none, some (.int a11), none]) (st' := [.ref 50]) (pc' := 145) kX4_damage_144 rfl trivial rfl ?_
        refine Gx_callV (As := []) (by decide +kernel) ml_4_100 okX4_checks mvX4_checks rfl (by decide) (Nat.le_of_ble_eq_true rfl) rfl rfl rfl (tX4_checks h) (fun rr M145 qq => ?_)
        obtain ⟨r145, rfl, h⟩ := qq
        show Gx l E mX4_damage _ 148 M145 [some (.ref 50), some (.int p1), some (.int p2), some (.int p3), some (.long a4), none, some (.long a6), none, some (.int a8), some (.long a9), none, some (.int a11), none] [.int r145]
        refine Gx_run (es := eX4_damage_148) (P := []) (M' := M145) (L' := [some (.ref 50), some (.int p1), some (.int p2), some (.int p3), some (.long a4), none, some (.long a6), none, some (.int a8), some (.long a9), none, some (.int a11), none]) (st' := [.ref 50, .long a4]) (pc' := 152) kX4_damage_148 rfl trivial rfl ?_
        refine Gx_callV (As := []) (by decide +kernel) ml_4_230 okX4_inodes mvX4_inodes rfl (by decide) (Nat.le_of_ble_eq_true rfl) rfl rfl rfl (tX4_inodes h) (fun rr M152 qq => ?_)
        obtain ⟨r152, rfl, h⟩ := qq
        show Gx l E mX4_damage _ 155 M152 [some (.ref 50), some (.int p1), some (.int p2), some (.int p3), some (.long a4), none, some (.long a6), none, some (.int a8), some (.long a9), none, some (.int a11), none] [.int r152, .long a4]
        refine Gx_run (es := eX4_damage_155) (P := []) (M' := M152) (L' := [some (.ref 50), some (.int p1), some (.int p2), some (.int p3), some (.long a4), none, some (.long a6), none, some (.int a8), some (.long a9), none, some (.int a11), none]) (st' := [.int p1, .int r152, .long a4]) (pc' := 156) kX4_damage_155 rfl trivial rfl ?_
        refine Gx_icmp_lt (off := 8) (tgt := 164) (by decide +kernel) (by decide) (fun z => ?_) (fun z => ?_)
        · have h := h.1 z
          refine Gx_run (es := eX4_damage_164) (P := []) (M' := M152) (L' := [some (.ref 50), some (.int p1), some (.int p2), some (.int p3), some (.long a4), none, some (.long a6), none, some (.int a8), some (.long a9), none, some (.int a11), none]) (st' := [.long (0 : Int64), .long a4]) (pc' := 165) kX4_damage_164 rfl trivial rfl ?_
          refine Gx_mask [true, true, true, true, false, false, true, false, true, true, false, false, false] (L' := [some (.ref 50), some (.int p1), some (.int p2), some (.int p3), none, none, some (.long a6), none, some (.int a8), some (.long a9), none, none, none]) rfl ?_
          exact tX4_damage_165  hk64 M152 a6 a8 a9 (0 : Int64) a4 h
        · have h := h.2 z
          refine Gx_run (es := eX4_damage_159) (P := []) (M' := M152) (L' := [some (.ref 50), some (.int p1), some (.int p2), some (.int p3), some (.long a4), none, some (.long a6), none, some (.int a8), some (.long a9), none, some (.int a11), none]) (st' := [.long a9, .long a4]) (pc' := 161) kX4_damage_159 rfl trivial rfl ?_
          refine Gx_goto (off := 4) (tgt := 165) (by decide +kernel) (by decide) ?_
          refine Gx_mask [true, true, true, true, false, false, true, false, true, true, false, false, false] (L' := [some (.ref 50), some (.int p1), some (.int p2), some (.int p3), none, none, some (.long a6), none, some (.int a8), some (.long a9), none, none, none]) rfl ?_
          exact tX4_damage_165  hk64 M152 a6 a8 a9 a9 a4 h
      · have h := h.2 z
        refine Gx_run (es := eX4_damage_88) (P := []) (M' := M) (L' := [some (.ref 50), some (.int p1), some (.int p2), some (.int p3), some (.long a4), none, some (.long a6), none, some (.int a8), some (.long a9), none, some (.int a11), none]) (st' := [.int (1 : Int32), .int ((a8 >>> (a11 &&& 31)) &&& (1 : Int32))]) (pc' := 96) kX4_damage_88 rfl trivial rfl ?_
        refine Gx_icmp_ne (off := 7) (tgt := 103) (by decide +kernel) (by decide) (fun z => ?_) (fun z => ?_)
        · have h := h.1 z
          refine Gx_run (es := eX4_damage_103) (P := []) (M' := M) (L' := [some (.ref 50), some (.int p1), some (.int p2), some (.int p3), some (.long a4), none, some (.long a6), none, some (.int a8), some (.long a9), none, some (.int a11), none]) (st' := [.int (0 : Int32)]) (pc' := 104) kX4_damage_103 rfl trivial rfl ?_
          refine Gx_mask [true, true, true, true, true, false, true, false, true, true, false, true, false] (L' := [some (.ref 50), some (.int p1), some (.int p2), some (.int p3), some (.long a4), none, some (.long a6), none, some (.int a8), some (.long a9), none, some (.int a11), none]) rfl ?_
          exact tX4_damage_104  hk64 hk81 M a4 a6 a8 a9 a11 (0 : Int32) h
        · have h := h.2 z
          refine Gx_run (es := eX4_damage_99) (P := []) (M' := M) (L' := [some (.ref 50), some (.int p1), some (.int p2), some (.int p3), some (.long a4), none, some (.long a6), none, some (.int a8), some (.long a9), none, some (.int a11), none]) (st' := [.int (1 : Int32)]) (pc' := 100) kX4_damage_99 rfl trivial rfl ?_
          refine Gx_goto (off := 4) (tgt := 104) (by decide +kernel) (by decide) ?_
          refine Gx_mask [true, true, true, true, true, false, true, false, true, true, false, true, false] (L' := [some (.ref 50), some (.int p1), some (.int p2), some (.int p3), some (.long a4), none, some (.long a6), none, some (.int a8), some (.long a9), none, some (.int a11), none]) rfl ?_
          exact tX4_damage_104  hk64 hk81 M a4 a6 a8 a9 a11 (1 : Int32) h
def lX4_damage_64 (p1 : Int32) (p2 : Int32) (p3 : Int32) (Q : Int64 → xM → Prop) : Nat → xM → Int64 → Int64 → Int32 → Prop
  | 0 => fun _ _ _ _ => False
  | n + 1 => let k64 := lX4_damage_64 p1 p2 p3 Q n; fun M a4 a6 a8 =>
    ((((64 : Int32) ≤ a8) → (wX4_goesBack M (fun M182 => wX4_lowest M182 a4 a6 p3 (fun r190 M190 => Q r190 M190)))) ∧ ((¬ (64 : Int32) ≤ a8) → (wX4_goesBack M (fun M72 => (∃ n : Nat, lX4_damage_81 p1 p2 p3 Q k64 n M72 a4 a6 a8 (1 : Int64) (0 : Int32))))))
set_option maxHeartbeats 4000000 in
set_option maxRecDepth 100000 in
theorem tX4_damage_64 {l : Launch} {E : xE} {p1 : Int32} {p2 : Int32} {p3 : Int32} {Q : Int64 → xM → Prop} (n : Nat) : ∀ (M : xM) (a4 : Int64) (a6 : Int64) (a8 : Int32), lX4_damage_64 p1 p2 p3 Q n M a4 a6 a8 → Gx l E mX4_damage (xRj Q) 64 M [some (.ref 50), some (.int p1), some (.int p2), some (.int p3), some (.long a4), none, some (.long a6), none, some (.int a8), none, none, none, none] [] := by
  induction n with
  | zero => intro M a4 a6 a8 h; exact h.elim
  | succ n hk64 =>
      intro M a4 a6 a8 h
      unfold lX4_damage_64 at h
      dsimp only at h
      refine Gx_run (es := eX4_damage_64) (P := []) (M' := M) (L' := [some (.ref 50), some (.int p1), some (.int p2), some (.int p3), some (.long a4), none, some (.long a6), none, some (.int a8), none, none, none, none]) (st' := [.int (64 : Int32), .int a8]) (pc' := 68) kX4_damage_64 rfl trivial rfl ?_
      refine Gx_icmp_ge (off := 113) (tgt := 181) (by decide +kernel) (by decide) (fun z => ?_) (fun z => ?_)
      · have h := h.1 z
        refine Gx_run (es := eX4_damage_181) (P := []) (M' := M) (L' := [some (.ref 50), some (.int p1), some (.int p2), some (.int p3), some (.long a4), none, some (.long a6), none, some (.int a8), none, none, none, none]) (st' := [.ref 50]) (pc' := 182) kX4_damage_181 rfl trivial rfl ?_
        refine Gx_callV (As := []) (by decide +kernel) ml_4_199 okX4_goesBack mvX4_goesBack rfl (by decide) (Nat.le_of_ble_eq_true rfl) rfl rfl rfl (tX4_goesBack h) (fun rr M182 qq => ?_)
        obtain ⟨rfl, h⟩ := qq
        show Gx l E mX4_damage _ 185 M182 [some (.ref 50), some (.int p1), some (.int p2), some (.int p3), some (.long a4), none, some (.long a6), none, some (.int a8), none, none, none, none] []
        refine Gx_run (es := eX4_damage_185) (P := []) (M' := M182) (L' := [some (.ref 50), some (.int p1), some (.int p2), some (.int p3), some (.long a4), none, some (.long a6), none, some (.int a8), none, none, none, none]) (st' := [.int p3, .long a6, .long a4]) (pc' := 190) kX4_damage_185 rfl trivial rfl ?_
        refine Gx_callS (As := [.long a4, .long a6, .int p3]) (by decide +kernel) ml_4_233 okX4_lowest mvX4_lowest rfl (by decide) (Nat.le_of_ble_eq_true rfl) (tX4_lowest h) (fun rr M190 qq => ?_)
        obtain ⟨r190, rfl, h⟩ := qq
        show Gx l E mX4_damage _ 193 M190 [some (.ref 50), some (.int p1), some (.int p2), some (.int p3), some (.long a4), none, some (.long a6), none, some (.int a8), none, none, none, none] [.long r190]
        exact Gx_lret (by decide +kernel) rfl ⟨_, rfl, h⟩
      · have h := h.2 z
        refine Gx_run (es := eX4_damage_71) (P := []) (M' := M) (L' := [some (.ref 50), some (.int p1), some (.int p2), some (.int p3), some (.long a4), none, some (.long a6), none, some (.int a8), none, none, none, none]) (st' := [.ref 50]) (pc' := 72) kX4_damage_71 rfl trivial rfl ?_
        refine Gx_callV (As := []) (by decide +kernel) ml_4_199 okX4_goesBack mvX4_goesBack rfl (by decide) (Nat.le_of_ble_eq_true rfl) rfl rfl rfl (tX4_goesBack h) (fun rr M72 qq => ?_)
        obtain ⟨rfl, h⟩ := qq
        show Gx l E mX4_damage _ 75 M72 [some (.ref 50), some (.int p1), some (.int p2), some (.int p3), some (.long a4), none, some (.long a6), none, some (.int a8), none, none, none, none] []
        refine Gx_run (es := eX4_damage_75) (P := []) (M' := M72) (L' := [some (.ref 50), some (.int p1), some (.int p2), some (.int p3), some (.long a4), none, some (.long a6), none, some (.int a8), some (.long (1 : Int64)), none, some (.int (0 : Int32)), none]) (st' := []) (pc' := 81) kX4_damage_75 rfl trivial rfl ?_
        refine Gx_mask [true, true, true, true, true, false, true, false, true, true, false, true, false] (L' := [some (.ref 50), some (.int p1), some (.int p2), some (.int p3), some (.long a4), none, some (.long a6), none, some (.int a8), some (.long (1 : Int64)), none, some (.int (0 : Int32)), none]) rfl ?_
        obtain ⟨n, h⟩ := h
        exact tX4_damage_81  hk64 n M72 a4 a6 a8 (1 : Int64) (0 : Int32) h
def wX4_damage (M : xM) (p1 : Int32) (p2 : Int32) (p3 : Int32) (Q : Int64 → xM → Prop) : Prop :=
    (((p1 < 0) → (wX4_damage_9 p1 p2 p3 Q M)) ∧ ((¬ p1 < 0) → (((((2 : Int32) ≤ p2) → (((((10 : Int32) < p1) → (wX4_damage_28 p1 p2 p3 Q M)) ∧ ((¬ (10 : Int32) < p1) → ((((p2 ≤ (20 : Int32)) → (wX4_in M p3 (0 : Int32) (1 : Int32) (fun r38 M38 => (((¬ r38 = 0) → (wX4_keeps M38 (fun M52 => (∃ n : Nat, lX4_damage_64 p1 p2 p3 Q n M52 (0 : Int64) (0 : Int64) (0 : Int32))))) ∧ ((r38 = 0) → (wX4_refusedLong M38 (-2 : Int32) (fun r47 M47 => Q r47 M47))))))) ∧ ((¬ p2 ≤ (20 : Int32)) → (wX4_damage_28 p1 p2 p3 Q M)))))))) ∧ ((¬ (2 : Int32) ≤ p2) → (wX4_damage_9 p1 p2 p3 Q M))))))
set_option maxHeartbeats 4000000 in
set_option maxRecDepth 100000 in
theorem tX4_damage {l : Launch} {E : xE} {M : xM} {p1 : Int32} {p2 : Int32} {p3 : Int32} {Q : Int64 → xM → Prop} (h : wX4_damage M p1 p2 p3 Q) : Ct l E mX4_damage [.ref 50, .int p1, .int p2, .int p3] M (xRj Q) := by
  refine Ct_of (by decide +kernel) rfl (Nat.le_of_ble_eq_true rfl) ?_
  unfold wX4_damage at h
  show Gx l E mX4_damage (xRj Q) 0 M [some (.ref 50), some (.int p1), some (.int p2), some (.int p3), none, none, none, none, none, none, none, none, none] []
  refine Gx_run (es := eX4_damage_0) (P := []) (M' := M) (L' := [some (.ref 50), some (.int p1), some (.int p2), some (.int p3), none, none, none, none, none, none, none, none, none]) (st' := [.int p1]) (pc' := 1) kX4_damage_0 rfl trivial rfl ?_
  refine Gx_if_lt (off := 8) (tgt := 9) (by decide +kernel) (by decide) (fun z => ?_) (fun z => ?_)
  · have h := h.1 z
    refine Gx_mask [true, false, false, false, false, false, false, false, false, false, false, false, false] (L' := [some (.ref 50), none, none, none, none, none, none, none, none, none, none, none, none]) rfl ?_
    exact tX4_damage_9  M h
  · have h := h.2 z
    refine Gx_run (es := eX4_damage_4) (P := []) (M' := M) (L' := [some (.ref 50), some (.int p1), some (.int p2), some (.int p3), none, none, none, none, none, none, none, none, none]) (st' := [.int (2 : Int32), .int p2]) (pc' := 6) kX4_damage_4 rfl trivial rfl ?_
    refine Gx_icmp_ge (off := 10) (tgt := 16) (by decide +kernel) (by decide) (fun z => ?_) (fun z => ?_)
    · have h := h.1 z
      refine Gx_run (es := eX4_damage_16) (P := []) (M' := M) (L' := [some (.ref 50), some (.int p1), some (.int p2), some (.int p3), none, none, none, none, none, none, none, none, none]) (st' := [.int (10 : Int32), .int p1]) (pc' := 19) kX4_damage_16 rfl trivial rfl ?_
      refine Gx_icmp_gt (off := 9) (tgt := 28) (by decide +kernel) (by decide) (fun z => ?_) (fun z => ?_)
      · have h := h.1 z
        refine Gx_mask [true, false, false, false, false, false, false, false, false, false, false, false, false] (L' := [some (.ref 50), none, none, none, none, none, none, none, none, none, none, none, none]) rfl ?_
        exact tX4_damage_28  M h
      · have h := h.2 z
        refine Gx_run (es := eX4_damage_22) (P := []) (M' := M) (L' := [some (.ref 50), some (.int p1), some (.int p2), some (.int p3), none, none, none, none, none, none, none, none, none]) (st' := [.int (20 : Int32), .int p2]) (pc' := 25) kX4_damage_22 rfl trivial rfl ?_
        refine Gx_icmp_le (off := 10) (tgt := 35) (by decide +kernel) (by decide) (fun z => ?_) (fun z => ?_)
        · have h := h.1 z
          refine Gx_run (es := eX4_damage_35) (P := []) (M' := M) (L' := [some (.ref 50), some (.int p1), some (.int p2), some (.int p3), none, none, none, none, none, none, none, none, none]) (st' := [.int (1 : Int32), .int (0 : Int32), .int p3]) (pc' := 38) kX4_damage_35 rfl trivial rfl ?_
          refine Gx_callS (As := [.int p3, .int (0 : Int32), .int (1 : Int32)]) (by decide +kernel) ml_4_43 okX4_in mvX4_in rfl (by decide) (Nat.le_of_ble_eq_true rfl) (tX4_in h) (fun rr M38 qq => ?_)
          obtain ⟨r38, rfl, h⟩ := qq
          show Gx l E mX4_damage _ 41 M38 [some (.ref 50), some (.int p1), some (.int p2), some (.int p3), none, none, none, none, none, none, none, none, none] [.int r38]
          refine Gx_if_ne (off := 10) (tgt := 51) (by decide +kernel) (by decide) (fun z => ?_) (fun z => ?_)
          · have h := h.1 z
            refine Gx_run (es := eX4_damage_51) (P := []) (M' := M38) (L' := [some (.ref 50), some (.int p1), some (.int p2), some (.int p3), none, none, none, none, none, none, none, none, none]) (st' := [.ref 50]) (pc' := 52) kX4_damage_51 rfl trivial rfl ?_
            refine Gx_callV (As := []) (by decide +kernel) ml_4_196 okX4_keeps mvX4_keeps rfl (by decide) (Nat.le_of_ble_eq_true rfl) rfl rfl rfl (tX4_keeps h) (fun rr M52 qq => ?_)
            obtain ⟨rfl, h⟩ := qq
            show Gx l E mX4_damage _ 55 M52 [some (.ref 50), some (.int p1), some (.int p2), some (.int p3), none, none, none, none, none, none, none, none, none] []
            refine Gx_run (es := eX4_damage_55) (P := []) (M' := M52) (L' := [some (.ref 50), some (.int p1), some (.int p2), some (.int p3), some (.long (0 : Int64)), none, some (.long (0 : Int64)), none, some (.int (0 : Int32)), none, none, none, none]) (st' := []) (pc' := 64) kX4_damage_55 rfl trivial rfl ?_
            refine Gx_mask [true, true, true, true, true, false, true, false, true, false, false, false, false] (L' := [some (.ref 50), some (.int p1), some (.int p2), some (.int p3), some (.long (0 : Int64)), none, some (.long (0 : Int64)), none, some (.int (0 : Int32)), none, none, none, none]) rfl ?_
            obtain ⟨n, h⟩ := h
            exact tX4_damage_64  n M52 (0 : Int64) (0 : Int64) (0 : Int32) h
          · have h := h.2 z
            refine Gx_run (es := eX4_damage_44) (P := []) (M' := M38) (L' := [some (.ref 50), some (.int p1), some (.int p2), some (.int p3), none, none, none, none, none, none, none, none, none]) (st' := [.int (-2 : Int32), .ref 50]) (pc' := 47) kX4_damage_44 rfl trivial rfl ?_
            refine Gx_callV (As := [.int (-2 : Int32)]) (by decide +kernel) ml_4_226 okX4_refusedLong mvX4_refusedLong rfl (by decide) (Nat.le_of_ble_eq_true rfl) rfl rfl rfl (tX4_refusedLong h) (fun rr M47 qq => ?_)
            obtain ⟨r47, rfl, h⟩ := qq
            show Gx l E mX4_damage _ 50 M47 [some (.ref 50), some (.int p1), some (.int p2), some (.int p3), none, none, none, none, none, none, none, none, none] [.long r47]
            exact Gx_lret (by decide +kernel) rfl ⟨_, rfl, h⟩
        · have h := h.2 z
          refine Gx_mask [true, false, false, false, false, false, false, false, false, false, false, false, false] (L' := [some (.ref 50), none, none, none, none, none, none, none, none, none, none, none, none]) rfl ?_
          exact tX4_damage_28  M h
    · have h := h.2 z
      refine Gx_mask [true, false, false, false, false, false, false, false, false, false, false, false, false] (L' := [some (.ref 50), none, none, none, none, none, none, none, none, none, none, none, none]) rfl ?_
      exact tX4_damage_9  M h
def eX4_isSo_0 : List xI := [(.aload_n 0, 1, 0, 0, 0)]
theorem kX4_isSo_0 : xcode (xmb mX4_isSo) (xmo mX4_isSo) 0 eX4_isSo_0 = true := by decide +kernel
def eX4_isSo_4 : List xI := [(.istore_n 1, 1, 0, 0, 0), (.iload_n 1, 1, 0, 0, 0), (.aload_n 0, 1, 0, 0, 0), (.getfield 237, 3, 4, 16, 0)]
theorem kX4_isSo_4 : xcode (xmb mX4_isSo) (xmo mX4_isSo) 4 eX4_isSo_4 = true := by decide +kernel
def eX4_isSo_17 : List xI := [(.iconst 0, 1, 0, 0, (0))]
theorem kX4_isSo_17 : xcode (xmb mX4_isSo) (xmo mX4_isSo) 17 eX4_isSo_17 = true := by decide +kernel
def eX4_isSo_18 : List xI := [(.istore_n 2, 1, 0, 0, 0), (.iconst 0, 1, 0, 0, (0)), (.istore_n 3, 1, 0, 0, 0)]
theorem kX4_isSo_18 : xcode (xmb mX4_isSo) (xmo mX4_isSo) 18 eX4_isSo_18 = true := by decide +kernel
def eX4_isSo_21 : List xI := [(.iload_n 3, 1, 0, 0, 0), (.aload_n 0, 1, 0, 0, 0), (.getfield 237, 3, 4, 16, 0)]
theorem kX4_isSo_21 : xcode (xmb mX4_isSo) (xmo mX4_isSo) 21 eX4_isSo_21 = true := by decide +kernel
def eX4_isSo_60 : List xI := [(.iload_n 2, 1, 0, 0, 0)]
theorem kX4_isSo_60 : xcode (xmb mX4_isSo) (xmo mX4_isSo) 60 eX4_isSo_60 = true := by decide +kernel
def eX4_isSo_29 : List xI := [(.iload_n 2, 1, 0, 0, 0)]
theorem kX4_isSo_29 : xcode (xmb mX4_isSo) (xmo mX4_isSo) 29 eX4_isSo_29 = true := by decide +kernel
def eX4_isSo_33 : List xI := [(.aload_n 0, 1, 0, 0, 0), (.getfield 25, 3, 4, 11, 0), (.iload_n 3, 1, 0, 0, 0), (.iaload, 1, 0, 0, 0), (.aload_n 0, 1, 0, 0, 0), (.getfield 34, 3, 4, 15, 0), (.iload_n 3, 1, 0, 0, 0), (.iaload, 1, 0, 0, 0)]
theorem kX4_isSo_33 : xcode (xmb mX4_isSo) (xmo mX4_isSo) 33 eX4_isSo_33 = true := by decide +kernel
def eX4_isSo_52 : List xI := [(.iconst 0, 1, 0, 0, (0))]
theorem kX4_isSo_52 : xcode (xmb mX4_isSo) (xmo mX4_isSo) 52 eX4_isSo_52 = true := by decide +kernel
def eX4_isSo_53 : List xI := [(.istore_n 2, 1, 0, 0, 0), (.iinc 3 1, 3, 0, 0, (1))]
theorem kX4_isSo_53 : xcode (xmb mX4_isSo) (xmo mX4_isSo) 53 eX4_isSo_53 = true := by decide +kernel
def eX4_isSo_48 : List xI := [(.iconst 1, 1, 0, 0, (1))]
theorem kX4_isSo_48 : xcode (xmb mX4_isSo) (xmo mX4_isSo) 48 eX4_isSo_48 = true := by decide +kernel
def eX4_isSo_13 : List xI := [(.iconst 1, 1, 0, 0, (1))]
theorem kX4_isSo_13 : xcode (xmb mX4_isSo) (xmo mX4_isSo) 13 eX4_isSo_13 = true := by decide +kernel
def wX4_isSo_60 (Q : Int32 → xM → Prop) (M : xM) (a2 : Int32) : Prop :=
    (a2 &&& 1 = a2) ∧ Q a2 M
set_option maxHeartbeats 4000000 in
set_option maxRecDepth 100000 in
theorem tX4_isSo_60 {l : Launch} {E : xE} {Q : Int32 → xM → Prop} (M : xM) (a2 : Int32) (h : wX4_isSo_60  Q M a2) : Gx l E mX4_isSo (xRi Q) 60 M [none, none, some (.int a2), none] [] := by
  unfold wX4_isSo_60 at h
  refine Gx_run (es := eX4_isSo_60) (P := []) (M' := M) (L' := [none, none, some (.int a2), none]) (st' := [.int a2]) (pc' := 61) kX4_isSo_60 rfl trivial rfl ?_
  exact Gx_iret (by decide +kernel) rfl (congrArg Value.int h.1) ⟨_, rfl, h.2⟩
def wX4_isSo_53 (Q : Int32 → xM → Prop) (k21 : xM → Int32 → Int32 → Prop) (M : xM) (a3 : Int32) (s0 : Int32) : Prop :=
    k21 M s0 (a3 + (1 : Int32))
set_option maxHeartbeats 4000000 in
set_option maxRecDepth 100000 in
theorem tX4_isSo_53 {l : Launch} {E : xE} {Q : Int32 → xM → Prop} {k21 : xM → Int32 → Int32 → Prop} (hk21 : ∀ (M : xM) (a2 : Int32) (a3 : Int32), k21 M a2 a3 → Gx l E mX4_isSo (xRi Q) 21 M [some (.ref 50), none, some (.int a2), some (.int a3)] []) (M : xM) (a3 : Int32) (s0 : Int32) (h : wX4_isSo_53  Q k21 M a3 s0) : Gx l E mX4_isSo (xRi Q) 53 M [some (.ref 50), none, none, some (.int a3)] [.int s0] := by
  unfold wX4_isSo_53 at h
  refine Gx_run (es := eX4_isSo_53) (P := []) (M' := M) (L' := [some (.ref 50), none, some (.int s0), some (.int (a3 + (1 : Int32)))]) (st' := []) (pc' := 57) kX4_isSo_53 rfl trivial rfl ?_
  refine Gx_goto (off := -36) (tgt := 21) (by decide +kernel) (by decide) ?_
  refine Gx_mask [true, false, true, true] (L' := [some (.ref 50), none, some (.int s0), some (.int (a3 + (1 : Int32)))]) rfl ?_
  exact hk21 M s0 (a3 + (1 : Int32)) h
def lX4_isSo_21 (Q : Int32 → xM → Prop) : Nat → xM → Int32 → Int32 → Prop
  | 0 => fun _ _ _ => False
  | n + 1 => let k21 := lX4_isSo_21  Q n; fun M a2 a3 =>
    ((((M 50 16) ≤ a3) → (wX4_isSo_60  Q M a2)) ∧ ((¬ (M 50 16) ≤ a3) → ((((a2 = 0) → (wX4_isSo_60  Q M a2)) ∧ ((¬ a2 = 0) → ((vp_in a3 400) ∧ (vp_in a3 32) ∧ (((¬ (M 56 a3.toNatClampNeg) = (M 59 a3.toNatClampNeg)) → (wX4_isSo_53  Q k21 M a3 (0 : Int32))) ∧ (((M 56 a3.toNatClampNeg) = (M 59 a3.toNatClampNeg)) → (wX4_isSo_53  Q k21 M a3 (1 : Int32))))))))))
set_option maxHeartbeats 4000000 in
set_option maxRecDepth 100000 in
theorem tX4_isSo_21 {l : Launch} {E : xE} {Q : Int32 → xM → Prop} (n : Nat) : ∀ (M : xM) (a2 : Int32) (a3 : Int32), lX4_isSo_21  Q n M a2 a3 → Gx l E mX4_isSo (xRi Q) 21 M [some (.ref 50), none, some (.int a2), some (.int a3)] [] := by
  induction n with
  | zero => intro M a2 a3 h; exact h.elim
  | succ n hk21 =>
      intro M a2 a3 h
      unfold lX4_isSo_21 at h
      dsimp only at h
      refine Gx_run (es := eX4_isSo_21) (P := [xkd 50 = 4]) (M' := M) (L' := [some (.ref 50), none, some (.int a2), some (.int a3)]) (st' := [.int (M 50 16), .int a3]) (pc' := 26) kX4_isSo_21 rfl ⟨rfl, trivial⟩ rfl ?_
      refine Gx_icmp_ge (off := 34) (tgt := 60) (by decide +kernel) (by decide) (fun z => ?_) (fun z => ?_)
      · have h := h.1 z
        refine Gx_mask [false, false, true, false] (L' := [none, none, some (.int a2), none]) rfl ?_
        exact tX4_isSo_60  M a2 h
      · have h := h.2 z
        refine Gx_run (es := eX4_isSo_29) (P := []) (M' := M) (L' := [some (.ref 50), none, some (.int a2), some (.int a3)]) (st' := [.int a2]) (pc' := 30) kX4_isSo_29 rfl trivial rfl ?_
        refine Gx_if_eq (off := 30) (tgt := 60) (by decide +kernel) (by decide) (fun z => ?_) (fun z => ?_)
        · have h := h.1 z
          refine Gx_mask [false, false, true, false] (L' := [none, none, some (.int a2), none]) rfl ?_
          exact tX4_isSo_60  M a2 h
        · have h := h.2 z
          obtain ⟨g33_0, g33_1, h⟩ := h
          refine Gx_run (es := eX4_isSo_33) (P := [xkd 50 = 4, xkd 56 = 5, vp_in a3 (xln 56), xkd 50 = 4, xkd 59 = 5, vp_in a3 (xln 59)]) (M' := M) (L' := [some (.ref 50), none, some (.int a2), some (.int a3)]) (st' := [.int (M 59 a3.toNatClampNeg), .int (M 56 a3.toNatClampNeg)]) (pc' := 45) kX4_isSo_33 rfl ⟨rfl, rfl, g33_0, rfl, rfl, g33_1, trivial⟩ rfl ?_
          refine Gx_icmp_ne (off := 7) (tgt := 52) (by decide +kernel) (by decide) (fun z => ?_) (fun z => ?_)
          · have h := h.1 z
            refine Gx_run (es := eX4_isSo_52) (P := []) (M' := M) (L' := [some (.ref 50), none, some (.int a2), some (.int a3)]) (st' := [.int (0 : Int32)]) (pc' := 53) kX4_isSo_52 rfl trivial rfl ?_
            refine Gx_mask [true, false, false, true] (L' := [some (.ref 50), none, none, some (.int a3)]) rfl ?_
            exact tX4_isSo_53  hk21 M a3 (0 : Int32) h
          · have h := h.2 z
            refine Gx_run (es := eX4_isSo_48) (P := []) (M' := M) (L' := [some (.ref 50), none, some (.int a2), some (.int a3)]) (st' := [.int (1 : Int32)]) (pc' := 49) kX4_isSo_48 rfl trivial rfl ?_
            refine Gx_goto (off := 4) (tgt := 53) (by decide +kernel) (by decide) ?_
            refine Gx_mask [true, false, false, true] (L' := [some (.ref 50), none, none, some (.int a3)]) rfl ?_
            exact tX4_isSo_53  hk21 M a3 (1 : Int32) h
def wX4_isSo_18 (Q : Int32 → xM → Prop) (M : xM) (s0 : Int32) : Prop :=
    (∃ n : Nat, lX4_isSo_21  Q n M s0 (0 : Int32))
set_option maxHeartbeats 4000000 in
set_option maxRecDepth 100000 in
theorem tX4_isSo_18 {l : Launch} {E : xE} {Q : Int32 → xM → Prop} (M : xM) (s0 : Int32) (h : wX4_isSo_18  Q M s0) : Gx l E mX4_isSo (xRi Q) 18 M [some (.ref 50), none, none, none] [.int s0] := by
  unfold wX4_isSo_18 at h
  refine Gx_run (es := eX4_isSo_18) (P := []) (M' := M) (L' := [some (.ref 50), none, some (.int s0), some (.int (0 : Int32))]) (st' := []) (pc' := 21) kX4_isSo_18 rfl trivial rfl ?_
  refine Gx_mask [true, false, true, true] (L' := [some (.ref 50), none, some (.int s0), some (.int (0 : Int32))]) rfl ?_
  obtain ⟨n, h⟩ := h
  exact tX4_isSo_21  n M s0 (0 : Int32) h
def wX4_isSo (M : xM) (Q : Int32 → xM → Prop) : Prop :=
    wX4_checks M (fun r1 M1 => (((r1 < (M1 50 16)) → (wX4_isSo_18  Q M1 (0 : Int32))) ∧ ((¬ r1 < (M1 50 16)) → (wX4_isSo_18  Q M1 (1 : Int32)))))
set_option maxHeartbeats 4000000 in
set_option maxRecDepth 100000 in
theorem tX4_isSo {l : Launch} {E : xE} {M : xM} {Q : Int32 → xM → Prop} (h : wX4_isSo M  Q) : Ct l E mX4_isSo [.ref 50] M (xRi Q) := by
  refine Ct_of (by decide +kernel) rfl (Nat.le_of_ble_eq_true rfl) ?_
  unfold wX4_isSo at h
  show Gx l E mX4_isSo (xRi Q) 0 M [some (.ref 50), none, none, none] []
  refine Gx_run (es := eX4_isSo_0) (P := []) (M' := M) (L' := [some (.ref 50), none, none, none]) (st' := [.ref 50]) (pc' := 1) kX4_isSo_0 rfl trivial rfl ?_
  refine Gx_callV (As := []) (by decide +kernel) ml_4_100 okX4_checks mvX4_checks rfl (by decide) (Nat.le_of_ble_eq_true rfl) rfl rfl rfl (tX4_checks h) (fun rr M1 qq => ?_)
  obtain ⟨r1, rfl, h⟩ := qq
  show Gx l E mX4_isSo _ 4 M1 [some (.ref 50), none, none, none] [.int r1]
  refine Gx_run (es := eX4_isSo_4) (P := [xkd 50 = 4]) (M' := M1) (L' := [some (.ref 50), some (.int r1), none, none]) (st' := [.int (M1 50 16), .int r1]) (pc' := 10) kX4_isSo_4 rfl ⟨rfl, trivial⟩ rfl ?_
  refine Gx_icmp_lt (off := 7) (tgt := 17) (by decide +kernel) (by decide) (fun z => ?_) (fun z => ?_)
  · have h := h.1 z
    refine Gx_run (es := eX4_isSo_17) (P := []) (M' := M1) (L' := [some (.ref 50), some (.int r1), none, none]) (st' := [.int (0 : Int32)]) (pc' := 18) kX4_isSo_17 rfl trivial rfl ?_
    refine Gx_mask [true, false, false, false] (L' := [some (.ref 50), none, none, none]) rfl ?_
    exact tX4_isSo_18  M1 (0 : Int32) h
  · have h := h.2 z
    refine Gx_run (es := eX4_isSo_13) (P := []) (M' := M1) (L' := [some (.ref 50), some (.int r1), none, none]) (st' := [.int (1 : Int32)]) (pc' := 14) kX4_isSo_13 rfl trivial rfl ?_
    refine Gx_goto (off := 4) (tgt := 18) (by decide +kernel) (by decide) ?_
    refine Gx_mask [true, false, false, false] (L' := [some (.ref 50), none, none, none]) rfl ?_
    exact tX4_isSo_18  M1 (1 : Int32) h
def eX4_judge_0 : List xI := [(.aload_n 0, 1, 0, 0, 0)]
theorem kX4_judge_0 : xcode (xmb mX4_judge) (xmo mX4_judge) 0 eX4_judge_0 = true := by decide +kernel
def eX4_judge_4 : List xI := [(.aload_n 0, 1, 0, 0, 0)]
theorem kX4_judge_4 : xcode (xmb mX4_judge) (xmo mX4_judge) 4 eX4_judge_4 = true := by decide +kernel
def eX4_judge_8 : List xI := [(.pop, 1, 0, 0, 0), (.bipush (-9), 2, 0, 0, (-9)), (.istore_n 1, 1, 0, 0, 0), (.aload_n 0, 1, 0, 0, 0), (.getfield 237, 3, 4, 16, 0), (.iconst 1, 1, 0, 0, (1)), (.isub, 1, 0, 0, 0), (.istore_n 2, 1, 0, 0, 0)]
theorem kX4_judge_8 : xcode (xmb mX4_judge) (xmo mX4_judge) 8 eX4_judge_8 = true := by decide +kernel
def eX4_judge_19 : List xI := [(.iload_n 2, 1, 0, 0, 0)]
theorem kX4_judge_19 : xcode (xmb mX4_judge) (xmo mX4_judge) 19 eX4_judge_19 = true := by decide +kernel
def eX4_judge_59 : List xI := [(.aload_n 0, 1, 0, 0, 0)]
theorem kX4_judge_59 : xcode (xmb mX4_judge) (xmo mX4_judge) 59 eX4_judge_59 = true := by decide +kernel
def eX4_judge_63 : List xI := [(.aload_n 0, 1, 0, 0, 0), (.iconst 0, 1, 0, 0, (0)), (.putfield 237, 3, 4, 16, 0), (.iload_n 1, 1, 0, 0, 0)]
theorem kX4_judge_63 : xcode (xmb mX4_judge) (xmo mX4_judge) 63 eX4_judge_63 = true := by decide +kernel
def eX4_judge_23 : List xI := [(.iload_n 2, 1, 0, 0, 0), (.bipush 9, 2, 0, 0, (9))]
theorem kX4_judge_23 : xcode (xmb mX4_judge) (xmo mX4_judge) 23 eX4_judge_23 = true := by decide +kernel
def eX4_judge_47 : List xI := [(.iload_n 2, 1, 0, 0, 0)]
theorem kX4_judge_47 : xcode (xmb mX4_judge) (xmo mX4_judge) 47 eX4_judge_47 = true := by decide +kernel
def eX4_judge_52 : List xI := [(.istore_n 1, 1, 0, 0, 0), (.iinc 2 (-1), 3, 0, 0, (-1))]
theorem kX4_judge_52 : xcode (xmb mX4_judge) (xmo mX4_judge) 52 eX4_judge_52 = true := by decide +kernel
def eX4_judge_29 : List xI := [(.aload_n 0, 1, 0, 0, 0), (.getfield 7, 3, 4, 1, 0), (.bipush 10, 2, 0, 0, (10)), (.iload_n 2, 1, 0, 0, 0), (.iadd, 1, 0, 0, 0), (.iaload, 1, 0, 0, 0), (.aload_n 0, 1, 0, 0, 0), (.getfield 34, 3, 4, 15, 0), (.iload_n 2, 1, 0, 0, 0), (.iaload, 1, 0, 0, 0)]
theorem kX4_judge_29 : xcode (xmb mX4_judge) (xmo mX4_judge) 29 eX4_judge_29 = true := by decide +kernel
def eX4_judge_51 : List xI := [(.iload_n 1, 1, 0, 0, 0)]
theorem kX4_judge_51 : xcode (xmb mX4_judge) (xmo mX4_judge) 51 eX4_judge_51 = true := by decide +kernel
def wX4_judge_52 (Q : Int32 → xM → Prop) (k19 : xM → Int32 → Int32 → Prop) (M : xM) (a2 : Int32) (s0 : Int32) : Prop :=
    k19 M s0 (a2 + (-1 : Int32))
set_option maxHeartbeats 4000000 in
set_option maxRecDepth 100000 in
theorem tX4_judge_52 {l : Launch} {E : xE} {Q : Int32 → xM → Prop} {k19 : xM → Int32 → Int32 → Prop} (hk19 : ∀ (M : xM) (a1 : Int32) (a2 : Int32), k19 M a1 a2 → Gx l E mX4_judge (xRi Q) 19 M [some (.ref 50), some (.int a1), some (.int a2)] []) (M : xM) (a2 : Int32) (s0 : Int32) (h : wX4_judge_52  Q k19 M a2 s0) : Gx l E mX4_judge (xRi Q) 52 M [some (.ref 50), none, some (.int a2)] [.int s0] := by
  unfold wX4_judge_52 at h
  refine Gx_run (es := eX4_judge_52) (P := []) (M' := M) (L' := [some (.ref 50), some (.int s0), some (.int (a2 + (-1 : Int32)))]) (st' := []) (pc' := 56) kX4_judge_52 rfl trivial rfl ?_
  refine Gx_goto (off := -37) (tgt := 19) (by decide +kernel) (by decide) ?_
  refine Gx_mask [true, true, true] (L' := [some (.ref 50), some (.int s0), some (.int (a2 + (-1 : Int32)))]) rfl ?_
  exact hk19 M s0 (a2 + (-1 : Int32)) h
def wX4_judge_47 (Q : Int32 → xM → Prop) (k19 : xM → Int32 → Int32 → Prop) (M : xM) (a2 : Int32) : Prop :=
    wX4_judge_52  Q k19 M a2 a2
set_option maxHeartbeats 4000000 in
set_option maxRecDepth 100000 in
theorem tX4_judge_47 {l : Launch} {E : xE} {Q : Int32 → xM → Prop} {k19 : xM → Int32 → Int32 → Prop} (hk19 : ∀ (M : xM) (a1 : Int32) (a2 : Int32), k19 M a1 a2 → Gx l E mX4_judge (xRi Q) 19 M [some (.ref 50), some (.int a1), some (.int a2)] []) (M : xM) (a2 : Int32) (h : wX4_judge_47  Q k19 M a2) : Gx l E mX4_judge (xRi Q) 47 M [some (.ref 50), none, some (.int a2)] [] := by
  unfold wX4_judge_47 at h
  refine Gx_run (es := eX4_judge_47) (P := []) (M' := M) (L' := [some (.ref 50), none, some (.int a2)]) (st' := [.int a2]) (pc' := 48) kX4_judge_47 rfl trivial rfl ?_
  refine Gx_goto (off := 4) (tgt := 52) (by decide +kernel) (by decide) ?_
  refine Gx_mask [true, false, true] (L' := [some (.ref 50), none, some (.int a2)]) rfl ?_
  exact tX4_judge_52  hk19 M a2 a2 h
def lX4_judge_19 (Q : Int32 → xM → Prop) : Nat → xM → Int32 → Int32 → Prop
  | 0 => fun _ _ _ => False
  | n + 1 => let k19 := lX4_judge_19  Q n; fun M a1 a2 =>
    (((a2 < 0) → (wX4_goesBack M (fun M60 => Q a1 (xup M60 50 16 (0 : Int32))))) ∧ ((¬ a2 < 0) → (((((9 : Int32) < a2) → (wX4_judge_47  Q k19 M a2)) ∧ ((¬ (9 : Int32) < a2) → ((vp_in ((10 : Int32) + a2) 147) ∧ (vp_in a2 32) ∧ ((((M 51 ((10 : Int32) + a2).toNatClampNeg) = (M 59 a2.toNatClampNeg)) → (wX4_judge_52  Q k19 M a2 a1)) ∧ ((¬ (M 51 ((10 : Int32) + a2).toNatClampNeg) = (M 59 a2.toNatClampNeg)) → (wX4_judge_47  Q k19 M a2)))))))))
set_option maxHeartbeats 4000000 in
set_option maxRecDepth 100000 in
theorem tX4_judge_19 {l : Launch} {E : xE} {Q : Int32 → xM → Prop} (n : Nat) : ∀ (M : xM) (a1 : Int32) (a2 : Int32), lX4_judge_19  Q n M a1 a2 → Gx l E mX4_judge (xRi Q) 19 M [some (.ref 50), some (.int a1), some (.int a2)] [] := by
  induction n with
  | zero => intro M a1 a2 h; exact h.elim
  | succ n hk19 =>
      intro M a1 a2 h
      unfold lX4_judge_19 at h
      dsimp only at h
      refine Gx_run (es := eX4_judge_19) (P := []) (M' := M) (L' := [some (.ref 50), some (.int a1), some (.int a2)]) (st' := [.int a2]) (pc' := 20) kX4_judge_19 rfl trivial rfl ?_
      refine Gx_if_lt (off := 39) (tgt := 59) (by decide +kernel) (by decide) (fun z => ?_) (fun z => ?_)
      · have h := h.1 z
        refine Gx_run (es := eX4_judge_59) (P := []) (M' := M) (L' := [some (.ref 50), some (.int a1), some (.int a2)]) (st' := [.ref 50]) (pc' := 60) kX4_judge_59 rfl trivial rfl ?_
        refine Gx_callV (As := []) (by decide +kernel) ml_4_199 okX4_goesBack mvX4_goesBack rfl (by decide) (Nat.le_of_ble_eq_true rfl) rfl rfl rfl (tX4_goesBack h) (fun rr M60 qq => ?_)
        obtain ⟨rfl, h⟩ := qq
        show Gx l E mX4_judge _ 63 M60 [some (.ref 50), some (.int a1), some (.int a2)] []
        refine Gx_run (es := eX4_judge_63) (P := [xkd 50 = 4]) (M' := (xup M60 50 16 (0 : Int32))) (L' := [some (.ref 50), some (.int a1), some (.int a2)]) (st' := [.int a1]) (pc' := 69) kX4_judge_63 rfl ⟨rfl, trivial⟩ rfl ?_
        exact Gx_iret (by decide +kernel) rfl rfl ⟨_, rfl, h⟩
      · have h := h.2 z
        refine Gx_run (es := eX4_judge_23) (P := []) (M' := M) (L' := [some (.ref 50), some (.int a1), some (.int a2)]) (st' := [.int (9 : Int32), .int a2]) (pc' := 26) kX4_judge_23 rfl trivial rfl ?_
        refine Gx_icmp_gt (off := 21) (tgt := 47) (by decide +kernel) (by decide) (fun z => ?_) (fun z => ?_)
        · have h := h.1 z
          refine Gx_mask [true, false, true] (L' := [some (.ref 50), none, some (.int a2)]) rfl ?_
          exact tX4_judge_47  hk19 M a2 h
        · have h := h.2 z
          obtain ⟨g29_0, g29_1, h⟩ := h
          refine Gx_run (es := eX4_judge_29) (P := [xkd 50 = 4, xkd 51 = 5, vp_in ((10 : Int32) + a2) (xln 51), xkd 50 = 4, xkd 59 = 5, vp_in a2 (xln 59)]) (M' := M) (L' := [some (.ref 50), some (.int a1), some (.int a2)]) (st' := [.int (M 59 a2.toNatClampNeg), .int (M 51 ((10 : Int32) + a2).toNatClampNeg)]) (pc' := 44) kX4_judge_29 rfl ⟨rfl, rfl, g29_0, rfl, rfl, g29_1, trivial⟩ rfl ?_
          refine Gx_icmp_eq (off := 7) (tgt := 51) (by decide +kernel) (by decide) (fun z => ?_) (fun z => ?_)
          · have h := h.1 z
            refine Gx_run (es := eX4_judge_51) (P := []) (M' := M) (L' := [some (.ref 50), some (.int a1), some (.int a2)]) (st' := [.int a1]) (pc' := 52) kX4_judge_51 rfl trivial rfl ?_
            refine Gx_mask [true, false, true] (L' := [some (.ref 50), none, some (.int a2)]) rfl ?_
            exact tX4_judge_52  hk19 M a2 a1 h
          · have h := h.2 z
            refine Gx_mask [true, false, true] (L' := [some (.ref 50), none, some (.int a2)]) rfl ?_
            exact tX4_judge_47  hk19 M a2 h
def wX4_judge (M : xM) (Q : Int32 → xM → Prop) : Prop :=
    wX4_keeps M (fun M1 => wX4_checks M1 (fun r5 M5 => (∃ n : Nat, lX4_judge_19  Q n M5 (-9 : Int32) ((M5 50 16) - (1 : Int32)))))
set_option maxHeartbeats 4000000 in
set_option maxRecDepth 100000 in
theorem tX4_judge {l : Launch} {E : xE} {M : xM} {Q : Int32 → xM → Prop} (h : wX4_judge M  Q) : Ct l E mX4_judge [.ref 50] M (xRi Q) := by
  refine Ct_of (by decide +kernel) rfl (Nat.le_of_ble_eq_true rfl) ?_
  unfold wX4_judge at h
  show Gx l E mX4_judge (xRi Q) 0 M [some (.ref 50), none, none] []
  refine Gx_run (es := eX4_judge_0) (P := []) (M' := M) (L' := [some (.ref 50), none, none]) (st' := [.ref 50]) (pc' := 1) kX4_judge_0 rfl trivial rfl ?_
  refine Gx_callV (As := []) (by decide +kernel) ml_4_196 okX4_keeps mvX4_keeps rfl (by decide) (Nat.le_of_ble_eq_true rfl) rfl rfl rfl (tX4_keeps h) (fun rr M1 qq => ?_)
  obtain ⟨rfl, h⟩ := qq
  show Gx l E mX4_judge _ 4 M1 [some (.ref 50), none, none] []
  refine Gx_run (es := eX4_judge_4) (P := []) (M' := M1) (L' := [some (.ref 50), none, none]) (st' := [.ref 50]) (pc' := 5) kX4_judge_4 rfl trivial rfl ?_
  refine Gx_callV (As := []) (by decide +kernel) ml_4_100 okX4_checks mvX4_checks rfl (by decide) (Nat.le_of_ble_eq_true rfl) rfl rfl rfl (tX4_checks h) (fun rr M5 qq => ?_)
  obtain ⟨r5, rfl, h⟩ := qq
  show Gx l E mX4_judge _ 8 M5 [some (.ref 50), none, none] [.int r5]
  refine Gx_run (es := eX4_judge_8) (P := [xkd 50 = 4]) (M' := M5) (L' := [some (.ref 50), some (.int (-9 : Int32)), some (.int ((M5 50 16) - (1 : Int32)))]) (st' := []) (pc' := 19) kX4_judge_8 rfl ⟨rfl, trivial⟩ rfl ?_
  refine Gx_mask [true, true, true] (L' := [some (.ref 50), some (.int (-9 : Int32)), some (.int ((M5 50 16) - (1 : Int32)))]) rfl ?_
  obtain ⟨n, h⟩ := h
  exact tX4_judge_19  n M5 (-9 : Int32) ((M5 50 16) - (1 : Int32)) h
