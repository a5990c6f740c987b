/-! walks: X3_damage, X4_goesThrough, X4_question, X4_questions, X4_reasons, X4_sound, X4_whatIs, X4_worst, X1_fault -/
def eX3_damage_0 : List xI := [(.iload_n 1, 1, 0, 0, 0)]
theorem kX3_damage_0 : xcode (xmb mX3_damage) (xmo mX3_damage) 0 eX3_damage_0 = true := by decide +kernel
def eX3_damage_9 : List xI := [(.ldc2_w 201, 3, 0, 0, 0), (.aload_n 0, 1, 0, 0, 0), (.bipush (-4), 2, 0, 0, (-4))]
theorem kX3_damage_9 : xcode (xmb mX3_damage) (xmo mX3_damage) 9 eX3_damage_9 = true := by decide +kernel
def eX3_damage_18 : List xI := [(.i2l, 1, 0, 0, 0), (.lsub, 1, 0, 0, 0)]
theorem kX3_damage_18 : xcode (xmb mX3_damage) (xmo mX3_damage) 18 eX3_damage_18 = true := by decide +kernel
def eX3_damage_4 : List xI := [(.iload_n 2, 1, 0, 0, 0), (.iconst 2, 1, 0, 0, (2))]
theorem kX3_damage_4 : xcode (xmb mX3_damage) (xmo mX3_damage) 4 eX3_damage_4 = true := by decide +kernel
def eX3_damage_21 : List xI := [(.iload_n 1, 1, 0, 0, 0), (.bipush 10, 2, 0, 0, (10))]
theorem kX3_damage_21 : xcode (xmb mX3_damage) (xmo mX3_damage) 21 eX3_damage_21 = true := by decide +kernel
def eX3_damage_33 : List xI := [(.ldc2_w 201, 3, 0, 0, 0), (.aload_n 0, 1, 0, 0, 0), (.bipush (-6), 2, 0, 0, (-6))]
theorem kX3_damage_33 : xcode (xmb mX3_damage) (xmo mX3_damage) 33 eX3_damage_33 = true := by decide +kernel
def eX3_damage_42 : List xI := [(.i2l, 1, 0, 0, 0), (.lsub, 1, 0, 0, 0)]
theorem kX3_damage_42 : xcode (xmb mX3_damage) (xmo mX3_damage) 42 eX3_damage_42 = true := by decide +kernel
def eX3_damage_27 : List xI := [(.iload_n 2, 1, 0, 0, 0), (.bipush 20, 2, 0, 0, (20))]
theorem kX3_damage_27 : xcode (xmb mX3_damage) (xmo mX3_damage) 27 eX3_damage_27 = true := by decide +kernel
def eX3_damage_45 : List xI := [(.iload_n 3, 1, 0, 0, 0)]
theorem kX3_damage_45 : xcode (xmb mX3_damage) (xmo mX3_damage) 45 eX3_damage_45 = true := by decide +kernel
def eX3_damage_66 : List xI := [(.lconst 0, 1, 0, 0, 0), (.lstore 4, 2, 0, 0, 0), (.iconst 0, 1, 0, 0, (0)), (.istore 6, 2, 0, 0, 0)]
theorem kX3_damage_66 : xcode (xmb mX3_damage) (xmo mX3_damage) 66 eX3_damage_66 = true := by decide +kernel
def eX3_damage_72 : List xI := [(.iload 6, 2, 0, 0, 0), (.bipush 64, 2, 0, 0, (64))]
theorem kX3_damage_72 : xcode (xmb mX3_damage) (xmo mX3_damage) 72 eX3_damage_72 = true := by decide +kernel
def eX3_damage_114 : List xI := [(.lload 4, 2, 0, 0, 0), (.iload_n 2, 1, 0, 0, 0), (.bipush 6, 2, 0, 0, (6))]
theorem kX3_damage_114 : xcode (xmb mX3_damage) (xmo mX3_damage) 114 eX3_damage_114 = true := by decide +kernel
def eX3_damage_122 : List xI := [(.iload_n 3, 1, 0, 0, 0)]
theorem kX3_damage_122 : xcode (xmb mX3_damage) (xmo mX3_damage) 122 eX3_damage_122 = true := by decide +kernel
def eX3_damage_79 : List xI := [(.aload_n 0, 1, 0, 0, 0), (.iload 6, 2, 0, 0, 0)]
theorem kX3_damage_79 : xcode (xmb mX3_damage) (xmo mX3_damage) 79 eX3_damage_79 = true := by decide +kernel
def eX3_damage_85 : List xI := [(.iload_n 1, 1, 0, 0, 0)]
theorem kX3_damage_85 : xcode (xmb mX3_damage) (xmo mX3_damage) 85 eX3_damage_85 = true := by decide +kernel
def eX3_damage_108 : List xI := [(.iinc 6 1, 3, 0, 0, (1))]
theorem kX3_damage_108 : xcode (xmb mX3_damage) (xmo mX3_damage) 108 eX3_damage_108 = true := by decide +kernel
def eX3_damage_89 : List xI := [(.lload 4, 2, 0, 0, 0), (.iload_n 2, 1, 0, 0, 0), (.iconst 1, 1, 0, 0, (1)), (.isub, 1, 0, 0, 0), (.bipush 6, 2, 0, 0, (6)), (.iload 6, 2, 0, 0, 0)]
theorem kX3_damage_89 : xcode (xmb mX3_damage) (xmo mX3_damage) 89 eX3_damage_89 = true := by decide +kernel
def eX3_damage_101 : List xI := [(.isub, 1, 0, 0, 0)]
theorem kX3_damage_101 : xcode (xmb mX3_damage) (xmo mX3_damage) 101 eX3_damage_101 = true := by decide +kernel
def eX3_damage_105 : List xI := [(.ladd, 1, 0, 0, 0), (.lstore 4, 2, 0, 0, 0)]
theorem kX3_damage_105 : xcode (xmb mX3_damage) (xmo mX3_damage) 105 eX3_damage_105 = true := by decide +kernel
def eX3_damage_49 : List xI := [(.iload_n 3, 1, 0, 0, 0), (.iconst 1, 1, 0, 0, (1))]
theorem kX3_damage_49 : xcode (xmb mX3_damage) (xmo mX3_damage) 49 eX3_damage_49 = true := by decide +kernel
def eX3_damage_54 : List xI := [(.ldc2_w 201, 3, 0, 0, 0), (.aload_n 0, 1, 0, 0, 0), (.bipush (-2), 2, 0, 0, (-2))]
theorem kX3_damage_54 : xcode (xmb mX3_damage) (xmo mX3_damage) 54 eX3_damage_54 = true := by decide +kernel
def eX3_damage_63 : List xI := [(.i2l, 1, 0, 0, 0), (.lsub, 1, 0, 0, 0)]
theorem kX3_damage_63 : xcode (xmb mX3_damage) (xmo mX3_damage) 63 eX3_damage_63 = true := by decide +kernel
def wX3_damage_9 (p1 : Int32) (p2 : Int32) (p3 : Int32) (Q : Int64 → xM → Prop) (M : xM) : Prop :=
    wX3_refusal M (-4 : Int32) (fun r15 M15 => Q ((4000000000000000000 : Int64) - r15.toInt64) M15)
set_option maxHeartbeats 4000000 in
set_option maxRecDepth 100000 in
theorem tX3_damage_9 {l : Launch} {E : xE} {p1 : Int32} {p2 : Int32} {p3 : Int32} {Q : Int64 → xM → Prop} (M : xM) (h : wX3_damage_9 p1 p2 p3 Q M ) : Gx l E mX3_damage (xRj Q) 9 M [some (.ref 0), none, none, none, none, none, none] [] := by
  unfold wX3_damage_9 at h
  refine Gx_run (es := eX3_damage_9) (P := []) (M' := M) (L' := [some (.ref 0), none, none, none, none, none, none]) (st' := [.int (-4 : Int32), .ref 0, .long (4000000000000000000 : Int64)]) (pc' := 15) kX3_damage_9 rfl trivial rfl ?_
  refine Gx_callV (As := [.int (-4 : Int32)]) (by decide +kernel) ml_3_63 okX3_refusal mvX3_refusal rfl (by decide) (Nat.le_of_ble_eq_true rfl) rfl rfl rfl (tX3_refusal h) (fun rr M15 qq => ?_)
  obtain ⟨r15, rfl, h⟩ := qq
  show Gx l E mX3_damage _ 18 M15 [some (.ref 0), none, none, none, none, none, none] [.int r15, .long (4000000000000000000 : Int64)]
  refine Gx_run (es := eX3_damage_18) (P := []) (M' := M15) (L' := [some (.ref 0), none, none, none, none, none, none]) (st' := [.long ((4000000000000000000 : Int64) - r15.toInt64)]) (pc' := 20) kX3_damage_18 rfl trivial rfl ?_
  exact Gx_lret (by decide +kernel) rfl ⟨_, rfl, h⟩
def wX3_damage_33 (p1 : Int32) (p2 : Int32) (p3 : Int32) (Q : Int64 → xM → Prop) (M : xM) : Prop :=
    wX3_refusal M (-6 : Int32) (fun r39 M39 => Q ((4000000000000000000 : Int64) - r39.toInt64) M39)
set_option maxHeartbeats 4000000 in
set_option maxRecDepth 100000 in
theorem tX3_damage_33 {l : Launch} {E : xE} {p1 : Int32} {p2 : Int32} {p3 : Int32} {Q : Int64 → xM → Prop} (M : xM) (h : wX3_damage_33 p1 p2 p3 Q M ) : Gx l E mX3_damage (xRj Q) 33 M [some (.ref 0), none, none, none, none, none, none] [] := by
  unfold wX3_damage_33 at h
  refine Gx_run (es := eX3_damage_33) (P := []) (M' := M) (L' := [some (.ref 0), none, none, none, none, none, none]) (st' := [.int (-6 : Int32), .ref 0, .long (4000000000000000000 : Int64)]) (pc' := 39) kX3_damage_33 rfl trivial rfl ?_
  refine Gx_callV (As := [.int (-6 : Int32)]) (by decide +kernel) ml_3_63 okX3_refusal mvX3_refusal rfl (by decide) (Nat.le_of_ble_eq_true rfl) rfl rfl rfl (tX3_refusal h) (fun rr M39 qq => ?_)
  obtain ⟨r39, rfl, h⟩ := qq
  show Gx l E mX3_damage _ 42 M39 [some (.ref 0), none, none, none, none, none, none] [.int r39, .long (4000000000000000000 : Int64)]
  refine Gx_run (es := eX3_damage_42) (P := []) (M' := M39) (L' := [some (.ref 0), none, none, none, none, none, none]) (st' := [.long ((4000000000000000000 : Int64) - r39.toInt64)]) (pc' := 44) kX3_damage_42 rfl trivial rfl ?_
  exact Gx_lret (by decide +kernel) rfl ⟨_, rfl, h⟩
def wX3_damage_108 (p1 : Int32) (p2 : Int32) (p3 : Int32) (Q : Int64 → xM → Prop) (k72 : xM → Int64 → Int32 → Prop) (M : xM) (a4 : Int64) (a6 : Int32) : Prop :=
    k72 M a4 (a6 + (1 : Int32))
set_option maxHeartbeats 4000000 in
set_option maxRecDepth 100000 in
theorem tX3_damage_108 {l : Launch} {E : xE} {p1 : Int32} {p2 : Int32} {p3 : Int32} {Q : Int64 → xM → Prop} {k72 : xM → Int64 → Int32 → Prop} (hk72 : ∀ (M : xM) (a4 : Int64) (a6 : Int32), k72 M a4 a6 → Gx l E mX3_damage (xRj Q) 72 M [some (.ref 0), some (.int p1), some (.int p2), some (.int p3), some (.long a4), none, some (.int a6)] []) (M : xM) (a4 : Int64) (a6 : Int32) (h : wX3_damage_108 p1 p2 p3 Q k72 M a4 a6) : Gx l E mX3_damage (xRj Q) 108 M [some (.ref 0), some (.int p1), some (.int p2), some (.int p3), some (.long a4), none, some (.int a6)] [] := by
  unfold wX3_damage_108 at h
  refine Gx_run (es := eX3_damage_108) (P := []) (M' := M) (L' := [some (.ref 0), some (.int p1), some (.int p2), some (.int p3), some (.long a4), none, some (.int (a6 + (1 : Int32)))]) (st' := []) (pc' := 111) kX3_damage_108 rfl trivial rfl ?_
  refine Gx_goto (off := -39) (tgt := 72) (by decide +kernel) (by decide) ?_
  refine Gx_mask [true, true, true, true, true, false, true] (L' := [some (.ref 0), some (.int p1), some (.int p2), some (.int p3), some (.long a4), none, some (.int (a6 + (1 : Int32)))]) rfl ?_
  exact hk72 M a4 (a6 + (1 : Int32)) h
def lX3_damage_72 (p1 : Int32) (p2 : Int32) (p3 : Int32) (Q : Int64 → xM → Prop) : Nat → xM → Int64 → Int32 → Prop
  | 0 => fun _ _ _ => False
  | n + 1 => let k72 := lX3_damage_72 p1 p2 p3 Q n; fun M a4 a6 =>
    ((((64 : Int32) ≤ a6) → (wX3_power M p2 (6 : Int32) (fun r119 M119 => wX3_partOfFraction M119 a4 r119 p3 (fun r123 M123 => Q r123 M123)))) ∧ ((¬ (64 : Int32) ≤ a6) → (wX3_leftWithout M a6 (fun r82 M82 => (((r82 < p1) → (wX3_damage_108 p1 p2 p3 Q k72 M82 a4 a6)) ∧ ((¬ r82 < p1) → (wJ6_bitCount_0f7a4 M82 a6 (fun r98 M98 => wX3_power M98 (p2 - (1 : Int32)) ((6 : Int32) - r98) (fun r102 M102 => wX3_damage_108 p1 p2 p3 Q k72 M102 (a4 + r102) a6)))))))))
set_option maxHeartbeats 4000000 in
set_option maxRecDepth 100000 in
theorem tX3_damage_72 {l : Launch} {E : xE} {p1 : Int32} {p2 : Int32} {p3 : Int32} {Q : Int64 → xM → Prop} (n : Nat) : ∀ (M : xM) (a4 : Int64) (a6 : Int32), lX3_damage_72 p1 p2 p3 Q n M a4 a6 → Gx l E mX3_damage (xRj Q) 72 M [some (.ref 0), some (.int p1), some (.int p2), some (.int p3), some (.long a4), none, some (.int a6)] [] := by
  induction n with
  | zero => intro M a4 a6 h; exact h.elim
  | succ n hk72 =>
      intro M a4 a6 h
      unfold lX3_damage_72 at h
      dsimp only at h
      refine Gx_run (es := eX3_damage_72) (P := []) (M' := M) (L' := [some (.ref 0), some (.int p1), some (.int p2), some (.int p3), some (.long a4), none, some (.int a6)]) (st' := [.int (64 : Int32), .int a6]) (pc' := 76) kX3_damage_72 rfl trivial rfl ?_
      refine Gx_icmp_ge (off := 38) (tgt := 114) (by decide +kernel) (by decide) (fun z => ?_) (fun z => ?_)
      · have h := h.1 z
        refine Gx_run (es := eX3_damage_114) (P := []) (M' := M) (L' := [some (.ref 0), some (.int p1), some (.int p2), some (.int p3), some (.long a4), none, some (.int a6)]) (st' := [.int (6 : Int32), .int p2, .long a4]) (pc' := 119) kX3_damage_114 rfl trivial rfl ?_
        refine Gx_callS (As := [.int p2, .int (6 : Int32)]) (by decide +kernel) ml_3_206 okX3_power mvX3_power rfl (by decide) (Nat.le_of_ble_eq_true rfl) (tX3_power h) (fun rr M119 qq => ?_)
        obtain ⟨r119, rfl, h⟩ := qq
        show Gx l E mX3_damage _ 122 M119 [some (.ref 0), some (.int p1), some (.int p2), some (.int p3), some (.long a4), none, some (.int a6)] [.long r119, .long a4]
        refine Gx_run (es := eX3_damage_122) (P := []) (M' := M119) (L' := [some (.ref 0), some (.int p1), some (.int p2), some (.int p3), some (.long a4), none, some (.int a6)]) (st' := [.int p3, .long r119, .long a4]) (pc' := 123) kX3_damage_122 rfl trivial rfl ?_
        refine Gx_callS (As := [.long a4, .long r119, .int p3]) (by decide +kernel) ml_3_210 okX3_partOfFraction mvX3_partOfFraction rfl (by decide) (Nat.le_of_ble_eq_true rfl) (tX3_partOfFraction h) (fun rr M123 qq => ?_)
        obtain ⟨r123, rfl, h⟩ := qq
        show Gx l E mX3_damage _ 126 M123 [some (.ref 0), some (.int p1), some (.int p2), some (.int p3), some (.long a4), none, some (.int a6)] [.long r123]
        exact Gx_lret (by decide +kernel) rfl ⟨_, rfl, h⟩
      · have h := h.2 z
        refine Gx_run (es := eX3_damage_79) (P := []) (M' := M) (L' := [some (.ref 0), some (.int p1), some (.int p2), some (.int p3), some (.long a4), none, some (.int a6)]) (st' := [.int a6, .ref 0]) (pc' := 82) kX3_damage_79 rfl trivial rfl ?_
        refine Gx_callV (As := [.int a6]) (by decide +kernel) ml_3_203 okX3_leftWithout mvX3_leftWithout rfl (by decide) (Nat.le_of_ble_eq_true rfl) rfl rfl rfl (tX3_leftWithout h) (fun rr M82 qq => ?_)
        obtain ⟨r82, rfl, h⟩ := qq
        show Gx l E mX3_damage _ 85 M82 [some (.ref 0), some (.int p1), some (.int p2), some (.int p3), some (.long a4), none, some (.int a6)] [.int r82]
        refine Gx_run (es := eX3_damage_85) (P := []) (M' := M82) (L' := [some (.ref 0), some (.int p1), some (.int p2), some (.int p3), some (.long a4), none, some (.int a6)]) (st' := [.int p1, .int r82]) (pc' := 86) kX3_damage_85 rfl trivial rfl ?_
        refine Gx_icmp_lt (off := 22) (tgt := 108) (by decide +kernel) (by decide) (fun z => ?_) (fun z => ?_)
        · have h := h.1 z
          refine Gx_mask [true, true, true, true, true, false, true] (L' := [some (.ref 0), some (.int p1), some (.int p2), some (.int p3), some (.long a4), none, some (.int a6)]) rfl ?_
          exact tX3_damage_108  hk72 M82 a4 a6 h
        · have h := h.2 z
          refine Gx_run (es := eX3_damage_89) (P := []) (M' := M82) (L' := [some (.ref 0), some (.int p1), some (.int p2), some (.int p3), some (.long a4), none, some (.int a6)]) (st' := [.int a6, .int (6 : Int32), .int (p2 - (1 : Int32)), .long a4]) (pc' := 98) kX3_damage_89 rfl trivial rfl ?_
          refine Gx_callS (As := [.int a6]) (by decide +kernel) ml_3_175 okJ6_bitCount_0f7a4 mvJ6_bitCount_0f7a4 rfl (by decide) (Nat.le_of_ble_eq_true rfl) (tJ6_bitCount_0f7a4 h) (fun rr M98 qq => ?_)
          obtain ⟨r98, rfl, h⟩ := qq
          show Gx l E mX3_damage _ 101 M98 [some (.ref 0), some (.int p1), some (.int p2), some (.int p3), some (.long a4), none, some (.int a6)] [.int r98, .int (6 : Int32), .int (p2 - (1 : Int32)), .long a4]
          refine Gx_run (es := eX3_damage_101) (P := []) (M' := M98) (L' := [some (.ref 0), some (.int p1), some (.int p2), some (.int p3), some (.long a4), none, some (.int a6)]) (st' := [.int ((6 : Int32) - r98), .int (p2 - (1 : Int32)), .long a4]) (pc' := 102) kX3_damage_101 rfl trivial rfl ?_
          refine Gx_callS (As := [.int (p2 - (1 : Int32)), .int ((6 : Int32) - r98)]) (by decide +kernel) ml_3_206 okX3_power mvX3_power rfl (by decide) (Nat.le_of_ble_eq_true rfl) (tX3_power h) (fun rr M102 qq => ?_)
          obtain ⟨r102, rfl, h⟩ := qq
          show Gx l E mX3_damage _ 105 M102 [some (.ref 0), some (.int p1), some (.int p2), some (.int p3), some (.long a4), none, some (.int a6)] [.long r102, .long a4]
          refine Gx_run (es := eX3_damage_105) (P := []) (M' := M102) (L' := [some (.ref 0), some (.int p1), some (.int p2), some (.int p3), some (.long (a4 + r102)), none, some (.int a6)]) (st' := []) (pc' := 108) kX3_damage_105 rfl trivial rfl ?_
          refine Gx_mask [true, true, true, true, true, false, true] (L' := [some (.ref 0), some (.int p1), some (.int p2), some (.int p3), some (.long (a4 + r102)), none, some (.int a6)]) rfl ?_
          exact tX3_damage_108  hk72 M102 (a4 + r102) a6 h
def wX3_damage_66 (p1 : Int32) (p2 : Int32) (p3 : Int32) (Q : Int64 → xM → Prop) (M : xM) : Prop :=
    (∃ n : Nat, lX3_damage_72 p1 p2 p3 Q n M (0 : Int64) (0 : Int32))
set_option maxHeartbeats 4000000 in
set_option maxRecDepth 100000 in
theorem tX3_damage_66 {l : Launch} {E : xE} {p1 : Int32} {p2 : Int32} {p3 : Int32} {Q : Int64 → xM → Prop} (M : xM) (h : wX3_damage_66 p1 p2 p3 Q M ) : Gx l E mX3_damage (xRj Q) 66 M [some (.ref 0), some (.int p1), some (.int p2), some (.int p3), none, none, none] [] := by
  unfold wX3_damage_66 at h
  refine Gx_run (es := eX3_damage_66) (P := []) (M' := M) (L' := [some (.ref 0), some (.int p1), some (.int p2), some (.int p3), some (.long (0 : Int64)), none, some (.int (0 : Int32))]) (st' := []) (pc' := 72) kX3_damage_66 rfl trivial rfl ?_
  refine Gx_mask [true, true, true, true, true, false, true] (L' := [some (.ref 0), some (.int p1), some (.int p2), some (.int p3), some (.long (0 : Int64)), none, some (.int (0 : Int32))]) rfl ?_
  obtain ⟨n, h⟩ := h
  exact tX3_damage_72  n M (0 : Int64) (0 : Int32) h
def wX3_damage (M : xM) (p1 : Int32) (p2 : Int32) (p3 : Int32) (Q : Int64 → xM → Prop) : Prop :=
    (((p1 < 0) → (wX3_damage_9 p1 p2 p3 Q M)) ∧ ((¬ p1 < 0) → (((((2 : Int32) ≤ p2) → (((((10 : Int32) < p1) → (wX3_damage_33 p1 p2 p3 Q M)) ∧ ((¬ (10 : Int32) < p1) → ((((p2 ≤ (20 : Int32)) → ((((p3 = 0) → (wX3_damage_66 p1 p2 p3 Q M)) ∧ ((¬ p3 = 0) → ((((p3 = (1 : Int32)) → (wX3_damage_66 p1 p2 p3 Q M)) ∧ ((¬ p3 = (1 : Int32)) → (wX3_refusal M (-2 : Int32) (fun r60 M60 => Q ((4000000000000000000 : Int64) - r60.toInt64) M60))))))))) ∧ ((¬ p2 ≤ (20 : Int32)) → (wX3_damage_33 p1 p2 p3 Q M)))))))) ∧ ((¬ (2 : Int32) ≤ p2) → (wX3_damage_9 p1 p2 p3 Q M))))))
set_option maxHeartbeats 4000000 in
set_option maxRecDepth 100000 in
theorem tX3_damage {l : Launch} {E : xE} {M : xM} {p1 : Int32} {p2 : Int32} {p3 : Int32} {Q : Int64 → xM → Prop} (h : wX3_damage M p1 p2 p3 Q) : Ct l E mX3_damage [.ref 0, .int p1, .int p2, .int p3] M (xRj Q) := by
  refine Ct_of (by decide +kernel) rfl (Nat.le_of_ble_eq_true rfl) ?_
  unfold wX3_damage at h
  show Gx l E mX3_damage (xRj Q) 0 M [some (.ref 0), some (.int p1), some (.int p2), some (.int p3), none, none, none] []
  refine Gx_run (es := eX3_damage_0) (P := []) (M' := M) (L' := [some (.ref 0), some (.int p1), some (.int p2), some (.int p3), none, none, none]) (st' := [.int p1]) (pc' := 1) kX3_damage_0 rfl trivial rfl ?_
  refine Gx_if_lt (off := 8) (tgt := 9) (by decide +kernel) (by decide) (fun z => ?_) (fun z => ?_)
  · have h := h.1 z
    refine Gx_mask [true, false, false, false, false, false, false] (L' := [some (.ref 0), none, none, none, none, none, none]) rfl ?_
    exact tX3_damage_9  M h
  · have h := h.2 z
    refine Gx_run (es := eX3_damage_4) (P := []) (M' := M) (L' := [some (.ref 0), some (.int p1), some (.int p2), some (.int p3), none, none, none]) (st' := [.int (2 : Int32), .int p2]) (pc' := 6) kX3_damage_4 rfl trivial rfl ?_
    refine Gx_icmp_ge (off := 15) (tgt := 21) (by decide +kernel) (by decide) (fun z => ?_) (fun z => ?_)
    · have h := h.1 z
      refine Gx_run (es := eX3_damage_21) (P := []) (M' := M) (L' := [some (.ref 0), some (.int p1), some (.int p2), some (.int p3), none, none, none]) (st' := [.int (10 : Int32), .int p1]) (pc' := 24) kX3_damage_21 rfl trivial rfl ?_
      refine Gx_icmp_gt (off := 9) (tgt := 33) (by decide +kernel) (by decide) (fun z => ?_) (fun z => ?_)
      · have h := h.1 z
        refine Gx_mask [true, false, false, false, false, false, false] (L' := [some (.ref 0), none, none, none, none, none, none]) rfl ?_
        exact tX3_damage_33  M h
      · have h := h.2 z
        refine Gx_run (es := eX3_damage_27) (P := []) (M' := M) (L' := [some (.ref 0), some (.int p1), some (.int p2), some (.int p3), none, none, none]) (st' := [.int (20 : Int32), .int p2]) (pc' := 30) kX3_damage_27 rfl trivial rfl ?_
        refine Gx_icmp_le (off := 15) (tgt := 45) (by decide +kernel) (by decide) (fun z => ?_) (fun z => ?_)
        · have h := h.1 z
          refine Gx_run (es := eX3_damage_45) (P := []) (M' := M) (L' := [some (.ref 0), some (.int p1), some (.int p2), some (.int p3), none, none, none]) (st' := [.int p3]) (pc' := 46) kX3_damage_45 rfl trivial rfl ?_
          refine Gx_if_eq (off := 20) (tgt := 66) (by decide +kernel) (by decide) (fun z => ?_) (fun z => ?_)
          · have h := h.1 z
            refine Gx_mask [true, true, true, true, false, false, false] (L' := [some (.ref 0), some (.int p1), some (.int p2), some (.int p3), none, none, none]) rfl ?_
            exact tX3_damage_66  M h
          · have h := h.2 z
            refine Gx_run (es := eX3_damage_49) (P := []) (M' := M) (L' := [some (.ref 0), some (.int p1), some (.int p2), some (.int p3), none, none, none]) (st' := [.int (1 : Int32), .int p3]) (pc' := 51) kX3_damage_49 rfl trivial rfl ?_
            refine Gx_icmp_eq (off := 15) (tgt := 66) (by decide +kernel) (by decide) (fun z => ?_) (fun z => ?_)
            · have h := h.1 z
              refine Gx_mask [true, true, true, true, false, false, false] (L' := [some (.ref 0), some (.int p1), some (.int p2), some (.int p3), none, none, none]) rfl ?_
              exact tX3_damage_66  M h
            · have h := h.2 z
              refine Gx_run (es := eX3_damage_54) (P := []) (M' := M) (L' := [some (.ref 0), some (.int p1), some (.int p2), some (.int p3), none, none, none]) (st' := [.int (-2 : Int32), .ref 0, .long (4000000000000000000 : Int64)]) (pc' := 60) kX3_damage_54 rfl trivial rfl ?_
              refine Gx_callV (As := [.int (-2 : Int32)]) (by decide +kernel) ml_3_63 okX3_refusal mvX3_refusal rfl (by decide) (Nat.le_of_ble_eq_true rfl) rfl rfl rfl (tX3_refusal h) (fun rr M60 qq => ?_)
              obtain ⟨r60, rfl, h⟩ := qq
              show Gx l E mX3_damage _ 63 M60 [some (.ref 0), some (.int p1), some (.int p2), some (.int p3), none, none, none] [.int r60, .long (4000000000000000000 : Int64)]
              refine Gx_run (es := eX3_damage_63) (P := []) (M' := M60) (L' := [some (.ref 0), some (.int p1), some (.int p2), some (.int p3), none, none, none]) (st' := [.long ((4000000000000000000 : Int64) - r60.toInt64)]) (pc' := 65) kX3_damage_63 rfl trivial rfl ?_
              exact Gx_lret (by decide +kernel) rfl ⟨_, rfl, h⟩
        · have h := h.2 z
          refine Gx_mask [true, false, false, false, false, false, false] (L' := [some (.ref 0), none, none, none, none, none, none]) rfl ?_
          exact tX3_damage_33  M h
    · have h := h.2 z
      refine Gx_mask [true, false, false, false, false, false, false] (L' := [some (.ref 0), none, none, none, none, none, none]) rfl ?_
      exact tX3_damage_9  M h
def eX4_goesThrough_0 : List xI := [(.aload_n 0, 1, 0, 0, 0), (.iconst 0, 1, 0, 0, (0)), (.putfield 61, 3, 4, 8, 0), (.aload_n 0, 1, 0, 0, 0), (.iconst 0, 1, 0, 0, (0)), (.putfield 68, 3, 4, 9, 0), (.aload_n 0, 1, 0, 0, 0), (.iconst (-1), 1, 0, 0, (-1)), (.putfield 87, 3, 4, 10, 0), (.iconst 0, 1, 0, 0, (0)), (.istore_n 2, 1, 0, 0, 0)]
theorem kX4_goesThrough_0 : xcode (xmb mX4_goesThrough) (xmo mX4_goesThrough) 0 eX4_goesThrough_0 = true := by decide +kernel
def eX4_goesThrough_17 : List xI := [(.aload_n 0, 1, 0, 0, 0), (.getfield 68, 3, 4, 9, 0)]
theorem kX4_goesThrough_17 : xcode (xmb mX4_goesThrough) (xmo mX4_goesThrough) 17 eX4_goesThrough_17 = true := by decide +kernel
def eX4_goesThrough_50 : List xI := [(.iload_n 2, 1, 0, 0, 0)]
theorem kX4_goesThrough_50 : xcode (xmb mX4_goesThrough) (xmo mX4_goesThrough) 50 eX4_goesThrough_50 = true := by decide +kernel
def eX4_goesThrough_24 : List xI := [(.iload_n 2, 1, 0, 0, 0)]
theorem kX4_goesThrough_24 : xcode (xmb mX4_goesThrough) (xmo mX4_goesThrough) 24 eX4_goesThrough_24 = true := by decide +kernel
def eX4_goesThrough_39 : List xI := [(.aload_n 0, 1, 0, 0, 0), (.iload_n 1, 1, 0, 0, 0)]
theorem kX4_goesThrough_39 : xcode (xmb mX4_goesThrough) (xmo mX4_goesThrough) 39 eX4_goesThrough_39 = true := by decide +kernel
def eX4_goesThrough_44 : List xI := [(.iinc 2 1, 3, 0, 0, (1))]
theorem kX4_goesThrough_44 : xcode (xmb mX4_goesThrough) (xmo mX4_goesThrough) 44 eX4_goesThrough_44 = true := by decide +kernel
def eX4_goesThrough_28 : List xI := [(.aload_n 0, 1, 0, 0, 0), (.getfield 61, 3, 4, 8, 0), (.aload_n 0, 1, 0, 0, 0), (.getfield 58, 3, 4, 7, 0)]
theorem kX4_goesThrough_28 : xcode (xmb mX4_goesThrough) (xmo mX4_goesThrough) 28 eX4_goesThrough_28 = true := by decide +kernel
def wX4_goesThrough_50 (p1 : Int32) (Q : Int32 → xM → Prop) (M : xM) (a2 : Int32) : Prop :=
    Q a2 M
set_option maxHeartbeats 4000000 in
set_option maxRecDepth 100000 in
theorem tX4_goesThrough_50 {l : Launch} {E : xE} {p1 : Int32} {Q : Int32 → xM → Prop} (M : xM) (a2 : Int32) (h : wX4_goesThrough_50 p1 Q M a2) : Gx l E mX4_goesThrough (xRi Q) 50 M [none, none, some (.int a2)] [] := by
  unfold wX4_goesThrough_50 at h
  refine Gx_run (es := eX4_goesThrough_50) (P := []) (M' := M) (L' := [none, none, some (.int a2)]) (st' := [.int a2]) (pc' := 51) kX4_goesThrough_50 rfl trivial rfl ?_
  exact Gx_iret (by decide +kernel) rfl rfl ⟨_, rfl, h⟩
def wX4_goesThrough_39 (p1 : Int32) (Q : Int32 → xM → Prop) (k17 : xM → Int32 → Prop) (M : xM) (a2 : Int32) : Prop :=
    wX4_states M p1 (fun M41 => k17 M41 (a2 + (1 : Int32)))
set_option maxHeartbeats 4000000 in
set_option maxRecDepth 100000 in
theorem tX4_goesThrough_39 {l : Launch} {E : xE} {p1 : Int32} {Q : Int32 → xM → Prop} {k17 : xM → Int32 → Prop} (hk17 : ∀ (M : xM) (a2 : Int32), k17 M a2 → Gx l E mX4_goesThrough (xRi Q) 17 M [some (.ref 50), some (.int p1), some (.int a2)] []) (M : xM) (a2 : Int32) (h : wX4_goesThrough_39 p1 Q k17 M a2) : Gx l E mX4_goesThrough (xRi Q) 39 M [some (.ref 50), some (.int p1), some (.int a2)] [] := by
  unfold wX4_goesThrough_39 at h
  refine Gx_run (es := eX4_goesThrough_39) (P := []) (M' := M) (L' := [some (.ref 50), some (.int p1), some (.int a2)]) (st' := [.int p1, .ref 50]) (pc' := 41) kX4_goesThrough_39 rfl trivial rfl ?_
  refine Gx_callV (As := [.int p1]) (by decide +kernel) ml_4_103 okX4_states mvX4_states rfl (by decide) (Nat.le_of_ble_eq_true rfl) rfl rfl rfl (tX4_states h) (fun rr M41 qq => ?_)
  obtain ⟨rfl, h⟩ := qq
  show Gx l E mX4_goesThrough _ 44 M41 [some (.ref 50), some (.int p1), some (.int a2)] []
  refine Gx_run (es := eX4_goesThrough_44) (P := []) (M' := M41) (L' := [some (.ref 50), some (.int p1), some (.int (a2 + (1 : Int32)))]) (st' := []) (pc' := 47) kX4_goesThrough_44 rfl trivial rfl ?_
  refine Gx_goto (off := -30) (tgt := 17) (by decide +kernel) (by decide) ?_
  refine Gx_mask [true, true, true] (L' := [some (.ref 50), some (.int p1), some (.int (a2 + (1 : Int32)))]) rfl ?_
  exact hk17 M41 (a2 + (1 : Int32)) h
def lX4_goesThrough_17 (p1 : Int32) (Q : Int32 → xM → Prop) : Nat → xM → Int32 → Prop
  | 0 => fun _ _ => False
  | n + 1 => let k17 := lX4_goesThrough_17 p1 Q n; fun M a2 =>
    (((¬ (M 50 9) = 0) → (wX4_goesThrough_50 p1 Q M a2)) ∧ (((M 50 9) = 0) → ((((a2 = 0) → (wX4_goesThrough_39 p1 Q k17 M a2)) ∧ ((¬ a2 = 0) → (((((M 50 7) ≤ (M 50 8)) → (wX4_goesThrough_50 p1 Q M a2)) ∧ ((¬ (M 50 7) ≤ (M 50 8)) → (wX4_goesThrough_39 p1 Q k17 M a2)))))))))
set_option maxHeartbeats 4000000 in
set_option maxRecDepth 100000 in
theorem tX4_goesThrough_17 {l : Launch} {E : xE} {p1 : Int32} {Q : Int32 → xM → Prop} (n : Nat) : ∀ (M : xM) (a2 : Int32), lX4_goesThrough_17 p1 Q n M a2 → Gx l E mX4_goesThrough (xRi Q) 17 M [some (.ref 50), some (.int p1), some (.int a2)] [] := by
  induction n with
  | zero => intro M a2 h; exact h.elim
  | succ n hk17 =>
      intro M a2 h
      unfold lX4_goesThrough_17 at h
      dsimp only at h
      refine Gx_run (es := eX4_goesThrough_17) (P := [xkd 50 = 4]) (M' := M) (L' := [some (.ref 50), some (.int p1), some (.int a2)]) (st' := [.int (M 50 9)]) (pc' := 21) kX4_goesThrough_17 rfl ⟨rfl, trivial⟩ rfl ?_
      refine Gx_if_ne (off := 29) (tgt := 50) (by decide +kernel) (by decide) (fun z => ?_) (fun z => ?_)
      · have h := h.1 z
        refine Gx_mask [false, false, true] (L' := [none, none, some (.int a2)]) rfl ?_
        exact tX4_goesThrough_50  M a2 h
      · have h := h.2 z
        refine Gx_run (es := eX4_goesThrough_24) (P := []) (M' := M) (L' := [some (.ref 50), some (.int p1), some (.int a2)]) (st' := [.int a2]) (pc' := 25) kX4_goesThrough_24 rfl trivial rfl ?_
        refine Gx_if_eq (off := 14) (tgt := 39) (by decide +kernel) (by decide) (fun z => ?_) (fun z => ?_)
        · have h := h.1 z
          refine Gx_mask [true, true, true] (L' := [some (.ref 50), some (.int p1), some (.int a2)]) rfl ?_
          exact tX4_goesThrough_39  hk17 M a2 h
        · have h := h.2 z
          refine Gx_run (es := eX4_goesThrough_28) (P := [xkd 50 = 4, xkd 50 = 4]) (M' := M) (L' := [some (.ref 50), some (.int p1), some (.int a2)]) (st' := [.int (M 50 7), .int (M 50 8)]) (pc' := 36) kX4_goesThrough_28 rfl ⟨rfl, rfl, trivial⟩ rfl ?_
          refine Gx_icmp_ge (off := 14) (tgt := 50) (by decide +kernel) (by decide) (fun z => ?_) (fun z => ?_)
          · have h := h.1 z
            refine Gx_mask [false, false, true] (L' := [none, none, some (.int a2)]) rfl ?_
            exact tX4_goesThrough_50  M a2 h
          · have h := h.2 z
            refine Gx_mask [true, true, true] (L' := [some (.ref 50), some (.int p1), some (.int a2)]) rfl ?_
            exact tX4_goesThrough_39  hk17 M a2 h
def wX4_goesThrough (M : xM) (p1 : Int32) (Q : Int32 → xM → Prop) : Prop :=
    (∃ n : Nat, lX4_goesThrough_17 p1 Q n (xup (xup (xup M 50 8 (0 : Int32)) 50 9 (0 : Int32)) 50 10 (-1 : Int32)) (0 : Int32))
set_option maxHeartbeats 4000000 in
set_option maxRecDepth 100000 in
theorem tX4_goesThrough {l : Launch} {E : xE} {M : xM} {p1 : Int32} {Q : Int32 → xM → Prop} (h : wX4_goesThrough M p1 Q) : Ct l E mX4_goesThrough [.ref 50, .int p1] M (xRi Q) := by
  refine Ct_of (by decide +kernel) rfl (Nat.le_of_ble_eq_true rfl) ?_
  unfold wX4_goesThrough at h
  show Gx l E mX4_goesThrough (xRi Q) 0 M [some (.ref 50), some (.int p1), none] []
  refine Gx_run (es := eX4_goesThrough_0) (P := [xkd 50 = 4, xkd 50 = 4, (0 : Int32) = 0 ∨ (0 : Int32) = 1, xkd 50 = 4]) (M' := (xup (xup (xup M 50 8 (0 : Int32)) 50 9 (0 : Int32)) 50 10 (-1 : Int32))) (L' := [some (.ref 50), some (.int p1), some (.int (0 : Int32))]) (st' := []) (pc' := 17) kX4_goesThrough_0 rfl ⟨rfl, rfl, (Or.inl rfl), rfl, trivial⟩ rfl ?_
  refine Gx_mask [true, true, true] (L' := [some (.ref 50), some (.int p1), some (.int (0 : Int32))]) rfl ?_
  obtain ⟨n, h⟩ := h
  exact tX4_goesThrough_17  n (xup (xup (xup M 50 8 (0 : Int32)) 50 9 (0 : Int32)) 50 10 (-1 : Int32)) (0 : Int32) h
def eX4_question_0 : List xI := [(.iload_n 2, 1, 0, 0, 0), (.iconst 0, 1, 0, 0, (0)), (.iconst 2, 1, 0, 0, (2))]
theorem kX4_question_0 : xcode (xmb mX4_question) (xmo mX4_question) 0 eX4_question_0 = true := by decide +kernel
def eX4_question_16 : List xI := [(.aload_n 0, 1, 0, 0, 0)]
theorem kX4_question_16 : xcode (xmb mX4_question) (xmo mX4_question) 16 eX4_question_16 = true := by decide +kernel
def eX4_question_20 : List xI := [(.iload_n 1, 1, 0, 0, 0), (.iconst 0, 1, 0, 0, (0)), (.aload_n 0, 1, 0, 0, 0), (.getfield 133, 3, 4, 14, 0), (.iconst 1, 1, 0, 0, (1)), (.isub, 1, 0, 0, 0)]
theorem kX4_question_20 : xcode (xmb mX4_question) (xmo mX4_question) 20 eX4_question_20 = true := by decide +kernel
def eX4_question_40 : List xI := [(.iload_n 2, 1, 0, 0, 0)]
theorem kX4_question_40 : xcode (xmb mX4_question) (xmo mX4_question) 40 eX4_question_40 = true := by decide +kernel
def eX4_question_53 : List xI := [(.iload_n 2, 1, 0, 0, 0), (.iconst 1, 1, 0, 0, (1))]
theorem kX4_question_53 : xcode (xmb mX4_question) (xmo mX4_question) 53 eX4_question_53 = true := by decide +kernel
def eX4_question_67 : List xI := [(.aload_n 0, 1, 0, 0, 0), (.getfield 31, 3, 4, 13, 0), (.iload_n 1, 1, 0, 0, 0), (.iaload, 1, 0, 0, 0)]
theorem kX4_question_67 : xcode (xmb mX4_question) (xmo mX4_question) 67 eX4_question_67 = true := by decide +kernel
def eX4_question_58 : List xI := [(.aload_n 0, 1, 0, 0, 0), (.getfield 28, 3, 4, 12, 0), (.iload_n 1, 1, 0, 0, 0), (.iaload, 1, 0, 0, 0)]
theorem kX4_question_58 : xcode (xmb mX4_question) (xmo mX4_question) 58 eX4_question_58 = true := by decide +kernel
def eX4_question_44 : List xI := [(.aload_n 0, 1, 0, 0, 0), (.getfield 25, 3, 4, 11, 0), (.iload_n 1, 1, 0, 0, 0), (.iaload, 1, 0, 0, 0)]
theorem kX4_question_44 : xcode (xmb mX4_question) (xmo mX4_question) 44 eX4_question_44 = true := by decide +kernel
def eX4_question_34 : List xI := [(.aload_n 0, 1, 0, 0, 0), (.iconst (-1), 1, 0, 0, (-1))]
theorem kX4_question_34 : xcode (xmb mX4_question) (xmo mX4_question) 34 eX4_question_34 = true := by decide +kernel
def eX4_question_9 : List xI := [(.aload_n 0, 1, 0, 0, 0), (.bipush (-2), 2, 0, 0, (-2))]
theorem kX4_question_9 : xcode (xmb mX4_question) (xmo mX4_question) 9 eX4_question_9 = true := by decide +kernel
def wX4_question_73 (p1 : Int32) (p2 : Int32) (Q : Int32 → xM → Prop) (M : xM) (s0 : Int32) : Prop :=
    Q s0 M
set_option maxHeartbeats 4000000 in
set_option maxRecDepth 100000 in
theorem tX4_question_73 {l : Launch} {E : xE} {p1 : Int32} {p2 : Int32} {Q : Int32 → xM → Prop} (M : xM) (s0 : Int32) (h : wX4_question_73 p1 p2 Q M s0) : Gx l E mX4_question (xRi Q) 73 M [none, none, none] [.int s0] := by
  unfold wX4_question_73 at h
  exact Gx_iret (by decide +kernel) rfl rfl ⟨_, rfl, h⟩
def wX4_question (M : xM) (p1 : Int32) (p2 : Int32) (Q : Int32 → xM → Prop) : Prop :=
    wX4_in M p2 (0 : Int32) (2 : Int32) (fun r3 M3 => (((¬ r3 = 0) → (wX4_thinks M3 (fun M17 => wX4_in M17 p1 (0 : Int32) ((M17 50 14) - (1 : Int32)) (fun r28 M28 => (((¬ r28 = 0) → ((((¬ p2 = 0) → ((((¬ p2 = (1 : Int32)) → ((vp_in p1 400) ∧ wX4_question_73 p1 p2 Q M28 (M28 58 p1.toNatClampNeg))) ∧ ((p2 = (1 : Int32)) → ((vp_in p1 400) ∧ wX4_question_73 p1 p2 Q M28 (M28 57 p1.toNatClampNeg)))))) ∧ ((p2 = 0) → ((vp_in p1 400) ∧ wX4_question_73 p1 p2 Q M28 (M28 56 p1.toNatClampNeg)))))) ∧ ((r28 = 0) → (wX4_refused M28 (-1 : Int32) (fun r36 M36 => Q r36 M36)))))))) ∧ ((r3 = 0) → (wX4_refused M3 (-2 : Int32) (fun r12 M12 => Q r12 M12)))))
set_option maxHeartbeats 4000000 in
set_option maxRecDepth 100000 in
theorem tX4_question {l : Launch} {E : xE} {M : xM} {p1 : Int32} {p2 : Int32} {Q : Int32 → xM → Prop} (h : wX4_question M p1 p2 Q) : Ct l E mX4_question [.ref 50, .int p1, .int p2] M (xRi Q) := by
  refine Ct_of (by decide +kernel) rfl (Nat.le_of_ble_eq_true rfl) ?_
  unfold wX4_question at h
  show Gx l E mX4_question (xRi Q) 0 M [some (.ref 50), some (.int p1), some (.int p2)] []
  refine Gx_run (es := eX4_question_0) (P := []) (M' := M) (L' := [some (.ref 50), some (.int p1), some (.int p2)]) (st' := [.int (2 : Int32), .int (0 : Int32), .int p2]) (pc' := 3) kX4_question_0 rfl trivial rfl ?_
  refine Gx_callS (As := [.int p2, .int (0 : Int32), .int (2 : Int32)]) (by decide +kernel) ml_4_43 okX4_in mvX4_in rfl (by decide) (Nat.le_of_ble_eq_true rfl) (tX4_in h) (fun rr M3 qq => ?_)
  obtain ⟨r3, rfl, h⟩ := qq
  show Gx l E mX4_question _ 6 M3 [some (.ref 50), some (.int p1), some (.int p2)] [.int r3]
  refine Gx_if_ne (off := 10) (tgt := 16) (by decide +kernel) (by decide) (fun z => ?_) (fun z => ?_)
  · have h := h.1 z
    refine Gx_run (es := eX4_question_16) (P := []) (M' := M3) (L' := [some (.ref 50), some (.int p1), some (.int p2)]) (st' := [.ref 50]) (pc' := 17) kX4_question_16 rfl trivial rfl ?_
    refine Gx_callV (As := []) (by decide +kernel) ml_4_202 okX4_thinks mvX4_thinks rfl (by decide) (Nat.le_of_ble_eq_true rfl) rfl rfl rfl (tX4_thinks h) (fun rr M17 qq => ?_)
    obtain ⟨rfl, h⟩ := qq
    show Gx l E mX4_question _ 20 M17 [some (.ref 50), some (.int p1), some (.int p2)] []
    refine Gx_run (es := eX4_question_20) (P := [xkd 50 = 4]) (M' := M17) (L' := [some (.ref 50), some (.int p1), some (.int p2)]) (st' := [.int ((M17 50 14) - (1 : Int32)), .int (0 : Int32), .int p1]) (pc' := 28) kX4_question_20 rfl ⟨rfl, trivial⟩ rfl ?_
    refine Gx_callS (As := [.int p1, .int (0 : Int32), .int ((M17 50 14) - (1 : Int32))]) (by decide +kernel) ml_4_43 okX4_in mvX4_in rfl (by decide) (Nat.le_of_ble_eq_true rfl) (tX4_in h) (fun rr M28 qq => ?_)
    obtain ⟨r28, rfl, h⟩ := qq
    show Gx l E mX4_question _ 31 M28 [some (.ref 50), some (.int p1), some (.int p2)] [.int r28]
    refine Gx_if_ne (off := 9) (tgt := 40) (by decide +kernel) (by decide) (fun z => ?_) (fun z => ?_)
    · have h := h.1 z
      refine Gx_run (es := eX4_question_40) (P := []) (M' := M28) (L' := [some (.ref 50), some (.int p1), some (.int p2)]) (st' := [.int p2]) (pc' := 41) kX4_question_40 rfl trivial rfl ?_
      refine Gx_if_ne (off := 12) (tgt := 53) (by decide +kernel) (by decide) (fun z => ?_) (fun z => ?_)
      · have h := h.1 z
        refine Gx_run (es := eX4_question_53) (P := []) (M' := M28) (L' := [some (.ref 50), some (.int p1), some (.int p2)]) (st' := [.int (1 : Int32), .int p2]) (pc' := 55) kX4_question_53 rfl trivial rfl ?_
        refine Gx_icmp_ne (off := 12) (tgt := 67) (by decide +kernel) (by decide) (fun z => ?_) (fun z => ?_)
        · have h := h.1 z
          obtain ⟨g67_0, h⟩ := h
          refine Gx_run (es := eX4_question_67) (P := [xkd 50 = 4, xkd 58 = 5, vp_in p1 (xln 58)]) (M' := M28) (L' := [some (.ref 50), some (.int p1), some (.int p2)]) (st' := [.int (M28 58 p1.toNatClampNeg)]) (pc' := 73) kX4_question_67 rfl ⟨rfl, rfl, g67_0, trivial⟩ rfl ?_
          refine Gx_mask [false, false, false] (L' := [none, none, none]) rfl ?_
          exact tX4_question_73  M28 (M28 58 p1.toNatClampNeg) h
        · have h := h.2 z
          obtain ⟨g58_0, h⟩ := h
          refine Gx_run (es := eX4_question_58) (P := [xkd 50 = 4, xkd 57 = 5, vp_in p1 (xln 57)]) (M' := M28) (L' := [some (.ref 50), some (.int p1), some (.int p2)]) (st' := [.int (M28 57 p1.toNatClampNeg)]) (pc' := 64) kX4_question_58 rfl ⟨rfl, rfl, g58_0, trivial⟩ rfl ?_
          refine Gx_goto (off := 9) (tgt := 73) (by decide +kernel) (by decide) ?_
          refine Gx_mask [false, false, false] (L' := [none, none, none]) rfl ?_
          exact tX4_question_73  M28 (M28 57 p1.toNatClampNeg) h
      · have h := h.2 z
        obtain ⟨g44_0, h⟩ := h
        refine Gx_run (es := eX4_question_44) (P := [xkd 50 = 4, xkd 56 = 5, vp_in p1 (xln 56)]) (M' := M28) (L' := [some (.ref 50), some (.int p1), some (.int p2)]) (st' := [.int (M28 56 p1.toNatClampNeg)]) (pc' := 50) kX4_question_44 rfl ⟨rfl, rfl, g44_0, trivial⟩ rfl ?_
        refine Gx_goto (off := 23) (tgt := 73) (by decide +kernel) (by decide) ?_
        refine Gx_mask [false, false, false] (L' := [none, none, none]) rfl ?_
        exact tX4_question_73  M28 (M28 56 p1.toNatClampNeg) h
    · have h := h.2 z
      refine Gx_run (es := eX4_question_34) (P := []) (M' := M28) (L' := [some (.ref 50), some (.int p1), some (.int p2)]) (st' := [.int (-1 : Int32), .ref 50]) (pc' := 36) kX4_question_34 rfl trivial rfl ?_
      refine Gx_callV (As := [.int (-1 : Int32)]) (by decide +kernel) ml_4_55 okX4_refused mvX4_refused rfl (by decide) (Nat.le_of_ble_eq_true rfl) rfl rfl rfl (tX4_refused h) (fun rr M36 qq => ?_)
      obtain ⟨r36, rfl, h⟩ := qq
      show Gx l E mX4_question _ 39 M36 [some (.ref 50), some (.int p1), some (.int p2)] [.int r36]
      exact Gx_iret (by decide +kernel) rfl rfl ⟨_, rfl, h⟩
  · have h := h.2 z
    refine Gx_run (es := eX4_question_9) (P := []) (M' := M3) (L' := [some (.ref 50), some (.int p1), some (.int p2)]) (st' := [.int (-2 : Int32), .ref 50]) (pc' := 12) kX4_question_9 rfl trivial rfl ?_
    refine Gx_callV (As := [.int (-2 : Int32)]) (by decide +kernel) ml_4_55 okX4_refused mvX4_refused rfl (by decide) (Nat.le_of_ble_eq_true rfl) rfl rfl rfl (tX4_refused h) (fun rr M12 qq => ?_)
    obtain ⟨r12, rfl, h⟩ := qq
    show Gx l E mX4_question _ 15 M12 [some (.ref 50), some (.int p1), some (.int p2)] [.int r12]
    exact Gx_iret (by decide +kernel) rfl rfl ⟨_, rfl, h⟩
def eX4_questions_0 : List xI := [(.iload_n 1, 1, 0, 0, 0), (.iconst 0, 1, 0, 0, (0)), (.bipush 16, 2, 0, 0, (16))]
theorem kX4_questions_0 : xcode (xmb mX4_questions) (xmo mX4_questions) 0 eX4_questions_0 = true := by decide +kernel
def eX4_questions_17 : List xI := [(.aload_n 0, 1, 0, 0, 0)]
theorem kX4_questions_17 : xcode (xmb mX4_questions) (xmo mX4_questions) 17 eX4_questions_17 = true := by decide +kernel
def eX4_questions_21 : List xI := [(.aload_n 0, 1, 0, 0, 0), (.iload_n 1, 1, 0, 0, 0)]
theorem kX4_questions_21 : xcode (xmb mX4_questions) (xmo mX4_questions) 21 eX4_questions_21 = true := by decide +kernel
def eX4_questions_10 : List xI := [(.aload_n 0, 1, 0, 0, 0), (.bipush (-2), 2, 0, 0, (-2))]
theorem kX4_questions_10 : xcode (xmb mX4_questions) (xmo mX4_questions) 10 eX4_questions_10 = true := by decide +kernel
def wX4_questions (M : xM) (p1 : Int32) (Q : Int32 → xM → Prop) : Prop :=
    wX4_in M p1 (0 : Int32) (16 : Int32) (fun r4 M4 => (((¬ r4 = 0) → (wX4_thinks M4 (fun M18 => wX4_manyOf M18 p1 (fun r23 M23 => Q r23 M23)))) ∧ ((r4 = 0) → (wX4_refused M4 (-2 : Int32) (fun r13 M13 => Q r13 M13)))))
set_option maxHeartbeats 4000000 in
set_option maxRecDepth 100000 in
theorem tX4_questions {l : Launch} {E : xE} {M : xM} {p1 : Int32} {Q : Int32 → xM → Prop} (h : wX4_questions M p1 Q) : Ct l E mX4_questions [.ref 50, .int p1] M (xRi Q) := by
  refine Ct_of (by decide +kernel) rfl (Nat.le_of_ble_eq_true rfl) ?_
  unfold wX4_questions at h
  show Gx l E mX4_questions (xRi Q) 0 M [some (.ref 50), some (.int p1)] []
  refine Gx_run (es := eX4_questions_0) (P := []) (M' := M) (L' := [some (.ref 50), some (.int p1)]) (st' := [.int (16 : Int32), .int (0 : Int32), .int p1]) (pc' := 4) kX4_questions_0 rfl trivial rfl ?_
  refine Gx_callS (As := [.int p1, .int (0 : Int32), .int (16 : Int32)]) (by decide +kernel) ml_4_43 okX4_in mvX4_in rfl (by decide) (Nat.le_of_ble_eq_true rfl) (tX4_in h) (fun rr M4 qq => ?_)
  obtain ⟨r4, rfl, h⟩ := qq
  show Gx l E mX4_questions _ 7 M4 [some (.ref 50), some (.int p1)] [.int r4]
  refine Gx_if_ne (off := 10) (tgt := 17) (by decide +kernel) (by decide) (fun z => ?_) (fun z => ?_)
  · have h := h.1 z
    refine Gx_run (es := eX4_questions_17) (P := []) (M' := M4) (L' := [some (.ref 50), some (.int p1)]) (st' := [.ref 50]) (pc' := 18) kX4_questions_17 rfl trivial rfl ?_
    refine Gx_callV (As := []) (by decide +kernel) ml_4_202 okX4_thinks mvX4_thinks rfl (by decide) (Nat.le_of_ble_eq_true rfl) rfl rfl rfl (tX4_thinks h) (fun rr M18 qq => ?_)
    obtain ⟨rfl, h⟩ := qq
    show Gx l E mX4_questions _ 21 M18 [some (.ref 50), some (.int p1)] []
    refine Gx_run (es := eX4_questions_21) (P := []) (M' := M18) (L' := [some (.ref 50), some (.int p1)]) (st' := [.int p1, .ref 50]) (pc' := 23) kX4_questions_21 rfl trivial rfl ?_
    refine Gx_callV (As := [.int p1]) (by decide +kernel) ml_4_205 okX4_manyOf mvX4_manyOf rfl (by decide) (Nat.le_of_ble_eq_true rfl) rfl rfl rfl (tX4_manyOf h) (fun rr M23 qq => ?_)
    obtain ⟨r23, rfl, h⟩ := qq
    show Gx l E mX4_questions _ 26 M23 [some (.ref 50), some (.int p1)] [.int r23]
    exact Gx_iret (by decide +kernel) rfl rfl ⟨_, rfl, h⟩
  · have h := h.2 z
    refine Gx_run (es := eX4_questions_10) (P := []) (M' := M4) (L' := [some (.ref 50), some (.int p1)]) (st' := [.int (-2 : Int32), .ref 50]) (pc' := 13) kX4_questions_10 rfl trivial rfl ?_
    refine Gx_callV (As := [.int (-2 : Int32)]) (by decide +kernel) ml_4_55 okX4_refused mvX4_refused rfl (by decide) (Nat.le_of_ble_eq_true rfl) rfl rfl rfl (tX4_refused h) (fun rr M13 qq => ?_)
    obtain ⟨r13, rfl, h⟩ := qq
    show Gx l E mX4_questions _ 16 M13 [some (.ref 50), some (.int p1)] [.int r13]
    exact Gx_iret (by decide +kernel) rfl rfl ⟨_, rfl, h⟩
def eX4_reasons_0 : List xI := [(.aload_n 0, 1, 0, 0, 0)]
theorem kX4_reasons_0 : xcode (xmb mX4_reasons) (xmo mX4_reasons) 0 eX4_reasons_0 = true := by decide +kernel
def eX4_reasons_4 : List xI := [(.iconst 0, 1, 0, 0, (0)), (.istore_n 1, 1, 0, 0, 0), (.iconst 0, 1, 0, 0, (0)), (.istore_n 2, 1, 0, 0, 0)]
theorem kX4_reasons_4 : xcode (xmb mX4_reasons) (xmo mX4_reasons) 4 eX4_reasons_4 = true := by decide +kernel
def eX4_reasons_8 : List xI := [(.iload_n 2, 1, 0, 0, 0), (.aload_n 0, 1, 0, 0, 0), (.getfield 133, 3, 4, 14, 0)]
theorem kX4_reasons_8 : xcode (xmb mX4_reasons) (xmo mX4_reasons) 8 eX4_reasons_8 = true := by decide +kernel
def eX4_reasons_33 : List xI := [(.iload_n 1, 1, 0, 0, 0)]
theorem kX4_reasons_33 : xcode (xmb mX4_reasons) (xmo mX4_reasons) 33 eX4_reasons_33 = true := by decide +kernel
def eX4_reasons_16 : List xI := [(.iload_n 1, 1, 0, 0, 0), (.iconst 1, 1, 0, 0, (1)), (.aload_n 0, 1, 0, 0, 0), (.getfield 25, 3, 4, 11, 0), (.iload_n 2, 1, 0, 0, 0), (.iaload, 1, 0, 0, 0), (.ishl, 1, 0, 0, 0), (.ior, 1, 0, 0, 0), (.istore_n 1, 1, 0, 0, 0), (.iinc 2 1, 3, 0, 0, (1))]
theorem kX4_reasons_16 : xcode (xmb mX4_reasons) (xmo mX4_reasons) 16 eX4_reasons_16 = true := by decide +kernel
def lX4_reasons_8 (Q : Int32 → xM → Prop) : Nat → xM → Int32 → Int32 → Prop
  | 0 => fun _ _ _ => False
  | n + 1 => let k8 := lX4_reasons_8  Q n; fun M a1 a2 =>
    ((((M 50 14) ≤ a2) → (Q a1 M)) ∧ ((¬ (M 50 14) ≤ a2) → ((vp_in a2 400) ∧ k8 M (a1 ||| ((1 : Int32) <<< ((M 56 a2.toNatClampNeg) &&& 31))) (a2 + (1 : Int32)))))
set_option maxHeartbeats 4000000 in
set_option maxRecDepth 100000 in
theorem tX4_reasons_8 {l : Launch} {E : xE} {Q : Int32 → xM → Prop} (n : Nat) : ∀ (M : xM) (a1 : Int32) (a2 : Int32), lX4_reasons_8  Q n M a1 a2 → Gx l E mX4_reasons (xRi Q) 8 M [some (.ref 50), some (.int a1), some (.int a2)] [] := by
  induction n with
  | zero => intro M a1 a2 h; exact h.elim
  | succ n hk8 =>
      intro M a1 a2 h
      unfold lX4_reasons_8 at h
      dsimp only at h
      refine Gx_run (es := eX4_reasons_8) (P := [xkd 50 = 4]) (M' := M) (L' := [some (.ref 50), some (.int a1), some (.int a2)]) (st' := [.int (M 50 14), .int a2]) (pc' := 13) kX4_reasons_8 rfl ⟨rfl, trivial⟩ rfl ?_
      refine Gx_icmp_ge (off := 20) (tgt := 33) (by decide +kernel) (by decide) (fun z => ?_) (fun z => ?_)
      · have h := h.1 z
        refine Gx_run (es := eX4_reasons_33) (P := []) (M' := M) (L' := [some (.ref 50), some (.int a1), some (.int a2)]) (st' := [.int a1]) (pc' := 34) kX4_reasons_33 rfl trivial rfl ?_
        exact Gx_iret (by decide +kernel) rfl rfl ⟨_, rfl, h⟩
      · have h := h.2 z
        obtain ⟨g16_0, h⟩ := h
        refine Gx_run (es := eX4_reasons_16) (P := [xkd 50 = 4, xkd 56 = 5, vp_in a2 (xln 56)]) (M' := M) (L' := [some (.ref 50), some (.int (a1 ||| ((1 : Int32) <<< ((M 56 a2.toNatClampNeg) &&& 31)))), some (.int (a2 + (1 : Int32)))]) (st' := []) (pc' := 30) kX4_reasons_16 rfl ⟨rfl, rfl, g16_0, trivial⟩ rfl ?_
        refine Gx_goto (off := -22) (tgt := 8) (by decide +kernel) (by decide) ?_
        refine Gx_mask [true, true, true] (L' := [some (.ref 50), some (.int (a1 ||| ((1 : Int32) <<< ((M 56 a2.toNatClampNeg) &&& 31)))), some (.int (a2 + (1 : Int32)))]) rfl ?_
        exact hk8 M (a1 ||| ((1 : Int32) <<< ((M 56 a2.toNatClampNeg) &&& 31))) (a2 + (1 : Int32)) h
def wX4_reasons (M : xM) (Q : Int32 → xM → Prop) : Prop :=
    wX4_thinks M (fun M1 => (∃ n : Nat, lX4_reasons_8  Q n M1 (0 : Int32) (0 : Int32)))
set_option maxHeartbeats 4000000 in
set_option maxRecDepth 100000 in
theorem tX4_reasons {l : Launch} {E : xE} {M : xM} {Q : Int32 → xM → Prop} (h : wX4_reasons M  Q) : Ct l E mX4_reasons [.ref 50] M (xRi Q) := by
  refine Ct_of (by decide +kernel) rfl (Nat.le_of_ble_eq_true rfl) ?_
  unfold wX4_reasons at h
  show Gx l E mX4_reasons (xRi Q) 0 M [some (.ref 50), none, none] []
  refine Gx_run (es := eX4_reasons_0) (P := []) (M' := M) (L' := [some (.ref 50), none, none]) (st' := [.ref 50]) (pc' := 1) kX4_reasons_0 rfl trivial rfl ?_
  refine Gx_callV (As := []) (by decide +kernel) ml_4_202 okX4_thinks mvX4_thinks rfl (by decide) (Nat.le_of_ble_eq_true rfl) rfl rfl rfl (tX4_thinks h) (fun rr M1 qq => ?_)
  obtain ⟨rfl, h⟩ := qq
  show Gx l E mX4_reasons _ 4 M1 [some (.ref 50), none, none] []
  refine Gx_run (es := eX4_reasons_4) (P := []) (M' := M1) (L' := [some (.ref 50), some (.int (0 : Int32)), some (.int (0 : Int32))]) (st' := []) (pc' := 8) kX4_reasons_4 rfl trivial rfl ?_
  refine Gx_mask [true, true, true] (L' := [some (.ref 50), some (.int (0 : Int32)), some (.int (0 : Int32))]) rfl ?_
  obtain ⟨n, h⟩ := h
  exact tX4_reasons_8  n M1 (0 : Int32) (0 : Int32) h
def eX4_sound_0 : List xI := [(.aload_n 0, 1, 0, 0, 0)]
theorem kX4_sound_0 : xcode (xmb mX4_sound) (xmo mX4_sound) 0 eX4_sound_0 = true := by decide +kernel
def eX4_sound_4 : List xI := [(.aload_n 0, 1, 0, 0, 0), (.getfield 133, 3, 4, 14, 0)]
theorem kX4_sound_4 : xcode (xmb mX4_sound) (xmo mX4_sound) 4 eX4_sound_4 = true := by decide +kernel
def eX4_sound_15 : List xI := [(.iconst 0, 1, 0, 0, (0))]
theorem kX4_sound_15 : xcode (xmb mX4_sound) (xmo mX4_sound) 15 eX4_sound_15 = true := by decide +kernel
def eX4_sound_11 : List xI := [(.iconst 1, 1, 0, 0, (1))]
theorem kX4_sound_11 : xcode (xmb mX4_sound) (xmo mX4_sound) 11 eX4_sound_11 = true := by decide +kernel
def wX4_sound_16 (Q : Int32 → xM → Prop) (M : xM) (s0 : Int32) : Prop :=
    Q s0 M
set_option maxHeartbeats 4000000 in
set_option maxRecDepth 100000 in
theorem tX4_sound_16 {l : Launch} {E : xE} {Q : Int32 → xM → Prop} (M : xM) (s0 : Int32) (h : wX4_sound_16  Q M s0) : Gx l E mX4_sound (xRi Q) 16 M [none] [.int s0] := by
  unfold wX4_sound_16 at h
  exact Gx_iret (by decide +kernel) rfl rfl ⟨_, rfl, h⟩
def wX4_sound (M : xM) (Q : Int32 → xM → Prop) : Prop :=
    wX4_thinks M (fun M1 => (((¬ (M1 50 14) = 0) → (wX4_sound_16  Q M1 (0 : Int32))) ∧ (((M1 50 14) = 0) → (wX4_sound_16  Q M1 (1 : Int32)))))
set_option maxHeartbeats 4000000 in
set_option maxRecDepth 100000 in
theorem tX4_sound {l : Launch} {E : xE} {M : xM} {Q : Int32 → xM → Prop} (h : wX4_sound M  Q) : Ct l E mX4_sound [.ref 50] M (xRi Q) := by
  refine Ct_of (by decide +kernel) rfl (Nat.le_of_ble_eq_true rfl) ?_
  unfold wX4_sound at h
  show Gx l E mX4_sound (xRi Q) 0 M [some (.ref 50)] []
  refine Gx_run (es := eX4_sound_0) (P := []) (M' := M) (L' := [some (.ref 50)]) (st' := [.ref 50]) (pc' := 1) kX4_sound_0 rfl trivial rfl ?_
  refine Gx_callV (As := []) (by decide +kernel) ml_4_202 okX4_thinks mvX4_thinks rfl (by decide) (Nat.le_of_ble_eq_true rfl) rfl rfl rfl (tX4_thinks h) (fun rr M1 qq => ?_)
  obtain ⟨rfl, h⟩ := qq
  show Gx l E mX4_sound _ 4 M1 [some (.ref 50)] []
  refine Gx_run (es := eX4_sound_4) (P := [xkd 50 = 4]) (M' := M1) (L' := [some (.ref 50)]) (st' := [.int (M1 50 14)]) (pc' := 8) kX4_sound_4 rfl ⟨rfl, trivial⟩ rfl ?_
  refine Gx_if_ne (off := 7) (tgt := 15) (by decide +kernel) (by decide) (fun z => ?_) (fun z => ?_)
  · have h := h.1 z
    refine Gx_run (es := eX4_sound_15) (P := []) (M' := M1) (L' := [some (.ref 50)]) (st' := [.int (0 : Int32)]) (pc' := 16) kX4_sound_15 rfl trivial rfl ?_
    refine Gx_mask [false] (L' := [none]) rfl ?_
    exact tX4_sound_16  M1 (0 : Int32) h
  · have h := h.2 z
    refine Gx_run (es := eX4_sound_11) (P := []) (M' := M1) (L' := [some (.ref 50)]) (st' := [.int (1 : Int32)]) (pc' := 12) kX4_sound_11 rfl trivial rfl ?_
    refine Gx_goto (off := 4) (tgt := 16) (by decide +kernel) (by decide) ?_
    refine Gx_mask [false] (L' := [none]) rfl ?_
    exact tX4_sound_16  M1 (1 : Int32) h
def eX4_whatIs_0 : List xI := [(.iload_n 1, 1, 0, 0, 0)]
theorem kX4_whatIs_0 : xcode (xmb mX4_whatIs) (xmo mX4_whatIs) 0 eX4_whatIs_0 = true := by decide +kernel
def eX4_whatIs_13 : List xI := [(.iload_n 2, 1, 0, 0, 0), (.iconst 0, 1, 0, 0, (0)), (.iconst 1, 1, 0, 0, (1))]
theorem kX4_whatIs_13 : xcode (xmb mX4_whatIs) (xmo mX4_whatIs) 13 eX4_whatIs_13 = true := by decide +kernel
def eX4_whatIs_29 : List xI := [(.aload_n 0, 1, 0, 0, 0)]
theorem kX4_whatIs_29 : xcode (xmb mX4_whatIs) (xmo mX4_whatIs) 29 eX4_whatIs_29 = true := by decide +kernel
def eX4_whatIs_33 : List xI := [(.iconst 0, 1, 0, 0, (0)), (.istore_n 3, 1, 0, 0, 0), (.iconst 0, 1, 0, 0, (0)), (.istore 4, 2, 0, 0, 0)]
theorem kX4_whatIs_33 : xcode (xmb mX4_whatIs) (xmo mX4_whatIs) 33 eX4_whatIs_33 = true := by decide +kernel
def eX4_whatIs_38 : List xI := [(.iload 4, 2, 0, 0, 0), (.iload_n 2, 1, 0, 0, 0)]
theorem kX4_whatIs_38 : xcode (xmb mX4_whatIs) (xmo mX4_whatIs) 38 eX4_whatIs_38 = true := by decide +kernel
def eX4_whatIs_49 : List xI := [(.bipush 10, 2, 0, 0, (10))]
theorem kX4_whatIs_49 : xcode (xmb mX4_whatIs) (xmo mX4_whatIs) 49 eX4_whatIs_49 = true := by decide +kernel
def eX4_whatIs_101 : List xI := [(.aload_n 0, 1, 0, 0, 0)]
theorem kX4_whatIs_101 : xcode (xmb mX4_whatIs) (xmo mX4_whatIs) 101 eX4_whatIs_101 = true := by decide +kernel
def eX4_whatIs_105 : List xI := [(.iload_n 3, 1, 0, 0, 0)]
theorem kX4_whatIs_105 : xcode (xmb mX4_whatIs) (xmo mX4_whatIs) 105 eX4_whatIs_105 = true := by decide +kernel
def eX4_whatIs_54 : List xI := [(.aload_n 0, 1, 0, 0, 0)]
theorem kX4_whatIs_54 : xcode (xmb mX4_whatIs) (xmo mX4_whatIs) 54 eX4_whatIs_54 = true := by decide +kernel
def eX4_whatIs_58 : List xI := [(.aload_n 0, 1, 0, 0, 0), (.getfield 7, 3, 4, 1, 0), (.iload_n 2, 1, 0, 0, 0)]
theorem kX4_whatIs_58 : xcode (xmb mX4_whatIs) (xmo mX4_whatIs) 58 eX4_whatIs_58 = true := by decide +kernel
def eX4_whatIs_70 : List xI := [(.bipush 10, 2, 0, 0, (10))]
theorem kX4_whatIs_70 : xcode (xmb mX4_whatIs) (xmo mX4_whatIs) 70 eX4_whatIs_70 = true := by decide +kernel
def eX4_whatIs_72 : List xI := [(.iload_n 1, 1, 0, 0, 0), (.iadd, 1, 0, 0, 0), (.iload 4, 2, 0, 0, 0), (.iastore, 1, 0, 0, 0), (.iload_n 3, 1, 0, 0, 0), (.aload_n 0, 1, 0, 0, 0)]
theorem kX4_whatIs_72 : xcode (xmb mX4_whatIs) (xmo mX4_whatIs) 72 eX4_whatIs_72 = true := by decide +kernel
def eX4_whatIs_92 : List xI := [(.iconst 0, 1, 0, 0, (0))]
theorem kX4_whatIs_92 : xcode (xmb mX4_whatIs) (xmo mX4_whatIs) 92 eX4_whatIs_92 = true := by decide +kernel
def eX4_whatIs_93 : List xI := [(.ior, 1, 0, 0, 0), (.istore_n 3, 1, 0, 0, 0), (.iinc 4 1, 3, 0, 0, (1))]
theorem kX4_whatIs_93 : xcode (xmb mX4_whatIs) (xmo mX4_whatIs) 93 eX4_whatIs_93 = true := by decide +kernel
def eX4_whatIs_85 : List xI := [(.iconst 1, 1, 0, 0, (1)), (.iload 4, 2, 0, 0, 0), (.ishl, 1, 0, 0, 0)]
theorem kX4_whatIs_85 : xcode (xmb mX4_whatIs) (xmo mX4_whatIs) 85 eX4_whatIs_85 = true := by decide +kernel
def eX4_whatIs_66 : List xI := [(.iconst 0, 1, 0, 0, (0))]
theorem kX4_whatIs_66 : xcode (xmb mX4_whatIs) (xmo mX4_whatIs) 66 eX4_whatIs_66 = true := by decide +kernel
def eX4_whatIs_44 : List xI := [(.bipush 6, 2, 0, 0, (6))]
theorem kX4_whatIs_44 : xcode (xmb mX4_whatIs) (xmo mX4_whatIs) 44 eX4_whatIs_44 = true := by decide +kernel
def eX4_whatIs_22 : List xI := [(.aload_n 0, 1, 0, 0, 0), (.bipush (-2), 2, 0, 0, (-2))]
theorem kX4_whatIs_22 : xcode (xmb mX4_whatIs) (xmo mX4_whatIs) 22 eX4_whatIs_22 = true := by decide +kernel
def eX4_whatIs_7 : List xI := [(.aload_n 0, 1, 0, 0, 0), (.iconst (-1), 1, 0, 0, (-1))]
theorem kX4_whatIs_7 : xcode (xmb mX4_whatIs) (xmo mX4_whatIs) 7 eX4_whatIs_7 = true := by decide +kernel
def wX4_whatIs_93 (p1 : Int32) (p2 : Int32) (Q : Int32 → xM → Prop) (k38 : xM → Int32 → Int32 → Prop) (M : xM) (a4 : Int32) (s0 : Int32) (s1 : Int32) : Prop :=
    k38 M (s1 ||| s0) (a4 + (1 : Int32))
set_option maxHeartbeats 4000000 in
set_option maxRecDepth 100000 in
theorem tX4_whatIs_93 {l : Launch} {E : xE} {p1 : Int32} {p2 : Int32} {Q : Int32 → xM → Prop} {k38 : xM → Int32 → Int32 → Prop} (hk38 : ∀ (M : xM) (a3 : Int32) (a4 : Int32), k38 M a3 a4 → Gx l E mX4_whatIs (xRi Q) 38 M [some (.ref 50), some (.int p1), some (.int p2), some (.int a3), some (.int a4)] []) (M : xM) (a4 : Int32) (s0 : Int32) (s1 : Int32) (h : wX4_whatIs_93 p1 p2 Q k38 M a4 s0 s1) : Gx l E mX4_whatIs (xRi Q) 93 M [some (.ref 50), some (.int p1), some (.int p2), none, some (.int a4)] [.int s0, .int s1] := by
  unfold wX4_whatIs_93 at h
  refine Gx_run (es := eX4_whatIs_93) (P := []) (M' := M) (L' := [some (.ref 50), some (.int p1), some (.int p2), some (.int (s1 ||| s0)), some (.int (a4 + (1 : Int32)))]) (st' := []) (pc' := 98) kX4_whatIs_93 rfl trivial rfl ?_
  refine Gx_goto (off := -60) (tgt := 38) (by decide +kernel) (by decide) ?_
  refine Gx_mask [true, true, true, true, true] (L' := [some (.ref 50), some (.int p1), some (.int p2), some (.int (s1 ||| s0)), some (.int (a4 + (1 : Int32)))]) rfl ?_
  exact hk38 M (s1 ||| s0) (a4 + (1 : Int32)) h
def wX4_whatIs_72 (p1 : Int32) (p2 : Int32) (Q : Int32 → xM → Prop) (k38 : xM → Int32 → Int32 → Prop) (M : xM) (a3 : Int32) (a4 : Int32) (s0 : Int32) : Prop :=
    (vp_in (s0 + p1) 147) ∧ wX4_isSo (xup M 51 (s0 + p1).toNatClampNeg a4) (fun r79 M79 => (((r79 = 0) → (wX4_whatIs_93 p1 p2 Q k38 M79 a4 (0 : Int32) a3)) ∧ ((¬ r79 = 0) → (wX4_whatIs_93 p1 p2 Q k38 M79 a4 ((1 : Int32) <<< (a4 &&& 31)) a3))))
set_option maxHeartbeats 4000000 in
set_option maxRecDepth 100000 in
theorem tX4_whatIs_72 {l : Launch} {E : xE} {p1 : Int32} {p2 : Int32} {Q : Int32 → xM → Prop} {k38 : xM → Int32 → Int32 → Prop} (hk38 : ∀ (M : xM) (a3 : Int32) (a4 : Int32), k38 M a3 a4 → Gx l E mX4_whatIs (xRi Q) 38 M [some (.ref 50), some (.int p1), some (.int p2), some (.int a3), some (.int a4)] []) (M : xM) (a3 : Int32) (a4 : Int32) (s0 : Int32) (h : wX4_whatIs_72 p1 p2 Q k38 M a3 a4 s0) : Gx l E mX4_whatIs (xRi Q) 72 M [some (.ref 50), some (.int p1), some (.int p2), some (.int a3), some (.int a4)] [.int s0, .ref 51] := by
  unfold wX4_whatIs_72 at h
  obtain ⟨g72_0, h⟩ := h
  refine Gx_run (es := eX4_whatIs_72) (P := [xkd 51 = 5, vp_in (s0 + p1) (xln 51)]) (M' := (xup M 51 (s0 + p1).toNatClampNeg a4)) (L' := [some (.ref 50), some (.int p1), some (.int p2), some (.int a3), some (.int a4)]) (st' := [.ref 50, .int a3]) (pc' := 79) kX4_whatIs_72 rfl ⟨rfl, g72_0, trivial⟩ rfl ?_
  refine Gx_callV (As := []) (by decide +kernel) ml_4_240 okX4_isSo mvX4_isSo rfl (by decide) (Nat.le_of_ble_eq_true rfl) rfl rfl rfl (tX4_isSo h) (fun rr M79 qq => ?_)
  obtain ⟨r79, rfl, h⟩ := qq
  show Gx l E mX4_whatIs _ 82 M79 [some (.ref 50), some (.int p1), some (.int p2), some (.int a3), some (.int a4)] [.int r79, .int a3]
  refine Gx_if_eq (off := 10) (tgt := 92) (by decide +kernel) (by decide) (fun z => ?_) (fun z => ?_)
  · have h := h.1 z
    refine Gx_run (es := eX4_whatIs_92) (P := []) (M' := M79) (L' := [some (.ref 50), some (.int p1), some (.int p2), some (.int a3), some (.int a4)]) (st' := [.int (0 : Int32), .int a3]) (pc' := 93) kX4_whatIs_92 rfl trivial rfl ?_
    refine Gx_mask [true, true, true, false, true] (L' := [some (.ref 50), some (.int p1), some (.int p2), none, some (.int a4)]) rfl ?_
    exact tX4_whatIs_93  hk38 M79 a4 (0 : Int32) a3 h
  · have h := h.2 z
    refine Gx_run (es := eX4_whatIs_85) (P := []) (M' := M79) (L' := [some (.ref 50), some (.int p1), some (.int p2), some (.int a3), some (.int a4)]) (st' := [.int ((1 : Int32) <<< (a4 &&& 31)), .int a3]) (pc' := 89) kX4_whatIs_85 rfl trivial rfl ?_
    refine Gx_goto (off := 4) (tgt := 93) (by decide +kernel) (by decide) ?_
    refine Gx_mask [true, true, true, false, true] (L' := [some (.ref 50), some (.int p1), some (.int p2), none, some (.int a4)]) rfl ?_
    exact tX4_whatIs_93  hk38 M79 a4 ((1 : Int32) <<< (a4 &&& 31)) a3 h
def wX4_whatIs_51 (p1 : Int32) (p2 : Int32) (Q : Int32 → xM → Prop) (k38 : xM → Int32 → Int32 → Prop) (M : xM) (a3 : Int32) (a4 : Int32) (s0 : Int32) (s1 : Int32) : Prop :=
    (((s0 ≤ s1) → (wX4_goesBack M (fun M102 => Q a3 M102))) ∧ ((¬ s0 ≤ s1) → (wX4_goesBack M (fun M55 => (((¬ p2 = 0) → (wX4_whatIs_72 p1 p2 Q k38 M55 a3 a4 (10 : Int32))) ∧ ((p2 = 0) → (wX4_whatIs_72 p1 p2 Q k38 M55 a3 a4 (0 : Int32))))))))
set_option maxHeartbeats 4000000 in
set_option maxRecDepth 100000 in
theorem tX4_whatIs_51 {l : Launch} {E : xE} {p1 : Int32} {p2 : Int32} {Q : Int32 → xM → Prop} {k38 : xM → Int32 → Int32 → Prop} (hk38 : ∀ (M : xM) (a3 : Int32) (a4 : Int32), k38 M a3 a4 → Gx l E mX4_whatIs (xRi Q) 38 M [some (.ref 50), some (.int p1), some (.int p2), some (.int a3), some (.int a4)] []) (M : xM) (a3 : Int32) (a4 : Int32) (s0 : Int32) (s1 : Int32) (h : wX4_whatIs_51 p1 p2 Q k38 M a3 a4 s0 s1) : Gx l E mX4_whatIs (xRi Q) 51 M [some (.ref 50), some (.int p1), some (.int p2), some (.int a3), some (.int a4)] [.int s0, .int s1] := by
  unfold wX4_whatIs_51 at h
  refine Gx_icmp_ge (off := 50) (tgt := 101) (by decide +kernel) (by decide) (fun z => ?_) (fun z => ?_)
  · have h := h.1 z
    refine Gx_run (es := eX4_whatIs_101) (P := []) (M' := M) (L' := [some (.ref 50), some (.int p1), some (.int p2), some (.int a3), some (.int a4)]) (st' := [.ref 50]) (pc' := 102) kX4_whatIs_101 rfl trivial rfl ?_
    refine Gx_callV (As := []) (by decide +kernel) ml_4_199 okX4_goesBack mvX4_goesBack rfl (by decide) (Nat.le_of_ble_eq_true rfl) rfl rfl rfl (tX4_goesBack h) (fun rr M102 qq => ?_)
    obtain ⟨rfl, h⟩ := qq
    show Gx l E mX4_whatIs _ 105 M102 [some (.ref 50), some (.int p1), some (.int p2), some (.int a3), some (.int a4)] []
    refine Gx_run (es := eX4_whatIs_105) (P := []) (M' := M102) (L' := [some (.ref 50), some (.int p1), some (.int p2), some (.int a3), some (.int a4)]) (st' := [.int a3]) (pc' := 106) kX4_whatIs_105 rfl trivial rfl ?_
    exact Gx_iret (by decide +kernel) rfl rfl ⟨_, rfl, h⟩
  · have h := h.2 z
    refine Gx_run (es := eX4_whatIs_54) (P := []) (M' := M) (L' := [some (.ref 50), some (.int p1), some (.int p2), some (.int a3), some (.int a4)]) (st' := [.ref 50]) (pc' := 55) kX4_whatIs_54 rfl trivial rfl ?_
    refine Gx_callV (As := []) (by decide +kernel) ml_4_199 okX4_goesBack mvX4_goesBack rfl (by decide) (Nat.le_of_ble_eq_true rfl) rfl rfl rfl (tX4_goesBack h) (fun rr M55 qq => ?_)
    obtain ⟨rfl, h⟩ := qq
    show Gx l E mX4_whatIs _ 58 M55 [some (.ref 50), some (.int p1), some (.int p2), some (.int a3), some (.int a4)] []
    refine Gx_run (es := eX4_whatIs_58) (P := [xkd 50 = 4]) (M' := M55) (L' := [some (.ref 50), some (.int p1), some (.int p2), some (.int a3), some (.int a4)]) (st' := [.int p2, .ref 51]) (pc' := 63) kX4_whatIs_58 rfl ⟨rfl, trivial⟩ rfl ?_
    refine Gx_if_ne (off := 7) (tgt := 70) (by decide +kernel) (by decide) (fun z => ?_) (fun z => ?_)
    · have h := h.1 z
      refine Gx_run (es := eX4_whatIs_70) (P := []) (M' := M55) (L' := [some (.ref 50), some (.int p1), some (.int p2), some (.int a3), some (.int a4)]) (st' := [.int (10 : Int32), .ref 51]) (pc' := 72) kX4_whatIs_70 rfl trivial rfl ?_
      refine Gx_mask [true, true, true, true, true] (L' := [some (.ref 50), some (.int p1), some (.int p2), some (.int a3), some (.int a4)]) rfl ?_
      exact tX4_whatIs_72  hk38 M55 a3 a4 (10 : Int32) h
    · have h := h.2 z
      refine Gx_run (es := eX4_whatIs_66) (P := []) (M' := M55) (L' := [some (.ref 50), some (.int p1), some (.int p2), some (.int a3), some (.int a4)]) (st' := [.int (0 : Int32), .ref 51]) (pc' := 67) kX4_whatIs_66 rfl trivial rfl ?_
      refine Gx_goto (off := 5) (tgt := 72) (by decide +kernel) (by decide) ?_
      refine Gx_mask [true, true, true, true, true] (L' := [some (.ref 50), some (.int p1), some (.int p2), some (.int a3), some (.int a4)]) rfl ?_
      exact tX4_whatIs_72  hk38 M55 a3 a4 (0 : Int32) h
def lX4_whatIs_38 (p1 : Int32) (p2 : Int32) (Q : Int32 → xM → Prop) : Nat → xM → Int32 → Int32 → Prop
  | 0 => fun _ _ _ => False
  | n + 1 => let k38 := lX4_whatIs_38 p1 p2 Q n; fun M a3 a4 =>
    (((¬ p2 = 0) → (wX4_whatIs_51 p1 p2 Q k38 M a3 a4 (10 : Int32) a4)) ∧ ((p2 = 0) → (wX4_whatIs_51 p1 p2 Q k38 M a3 a4 (6 : Int32) a4)))
set_option maxHeartbeats 4000000 in
set_option maxRecDepth 100000 in
theorem tX4_whatIs_38 {l : Launch} {E : xE} {p1 : Int32} {p2 : Int32} {Q : Int32 → xM → Prop} (n : Nat) : ∀ (M : xM) (a3 : Int32) (a4 : Int32), lX4_whatIs_38 p1 p2 Q n M a3 a4 → Gx l E mX4_whatIs (xRi Q) 38 M [some (.ref 50), some (.int p1), some (.int p2), some (.int a3), some (.int a4)] [] := by
  induction n with
  | zero => intro M a3 a4 h; exact h.elim
  | succ n hk38 =>
      intro M a3 a4 h
      unfold lX4_whatIs_38 at h
      dsimp only at h
      refine Gx_run (es := eX4_whatIs_38) (P := []) (M' := M) (L' := [some (.ref 50), some (.int p1), some (.int p2), some (.int a3), some (.int a4)]) (st' := [.int p2, .int a4]) (pc' := 41) kX4_whatIs_38 rfl trivial rfl ?_
      refine Gx_if_ne (off := 8) (tgt := 49) (by decide +kernel) (by decide) (fun z => ?_) (fun z => ?_)
      · have h := h.1 z
        refine Gx_run (es := eX4_whatIs_49) (P := []) (M' := M) (L' := [some (.ref 50), some (.int p1), some (.int p2), some (.int a3), some (.int a4)]) (st' := [.int (10 : Int32), .int a4]) (pc' := 51) kX4_whatIs_49 rfl trivial rfl ?_
        refine Gx_mask [true, true, true, true, true] (L' := [some (.ref 50), some (.int p1), some (.int p2), some (.int a3), some (.int a4)]) rfl ?_
        exact tX4_whatIs_51  hk38 M a3 a4 (10 : Int32) a4 h
      · have h := h.2 z
        refine Gx_run (es := eX4_whatIs_44) (P := []) (M' := M) (L' := [some (.ref 50), some (.int p1), some (.int p2), some (.int a3), some (.int a4)]) (st' := [.int (6 : Int32), .int a4]) (pc' := 46) kX4_whatIs_44 rfl trivial rfl ?_
        refine Gx_goto (off := 5) (tgt := 51) (by decide +kernel) (by decide) ?_
        refine Gx_mask [true, true, true, true, true] (L' := [some (.ref 50), some (.int p1), some (.int p2), some (.int a3), some (.int a4)]) rfl ?_
        exact tX4_whatIs_51  hk38 M a3 a4 (6 : Int32) a4 h
def wX4_whatIs (M : xM) (p1 : Int32) (p2 : Int32) (Q : Int32 → xM → Prop) : Prop :=
    wX4_isInode M p1 (fun r1 M1 => (((¬ r1 = 0) → (wX4_in M1 p2 (0 : Int32) (1 : Int32) (fun r16 M16 => (((¬ r16 = 0) → (wX4_keeps M16 (fun M30 => (∃ n : Nat, lX4_whatIs_38 p1 p2 Q n M30 (0 : Int32) (0 : Int32))))) ∧ ((r16 = 0) → (wX4_refused M16 (-2 : Int32) (fun r25 M25 => Q r25 M25))))))) ∧ ((r1 = 0) → (wX4_refused M1 (-1 : Int32) (fun r9 M9 => Q r9 M9)))))
set_option maxHeartbeats 4000000 in
set_option maxRecDepth 100000 in
theorem tX4_whatIs {l : Launch} {E : xE} {M : xM} {p1 : Int32} {p2 : Int32} {Q : Int32 → xM → Prop} (h : wX4_whatIs M p1 p2 Q) : Ct l E mX4_whatIs [.ref 50, .int p1, .int p2] M (xRi Q) := by
  refine Ct_of (by decide +kernel) rfl (Nat.le_of_ble_eq_true rfl) ?_
  unfold wX4_whatIs at h
  show Gx l E mX4_whatIs (xRi Q) 0 M [some (.ref 50), some (.int p1), some (.int p2), none, none] []
  refine Gx_run (es := eX4_whatIs_0) (P := []) (M' := M) (L' := [some (.ref 50), some (.int p1), some (.int p2), none, none]) (st' := [.int p1]) (pc' := 1) kX4_whatIs_0 rfl trivial rfl ?_
  refine Gx_callS (As := [.int p1]) (by decide +kernel) ml_4_111 okX4_isInode mvX4_isInode rfl (by decide) (Nat.le_of_ble_eq_true rfl) (tX4_isInode h) (fun rr M1 qq => ?_)
  obtain ⟨r1, rfl, h⟩ := qq
  show Gx l E mX4_whatIs _ 4 M1 [some (.ref 50), some (.int p1), some (.int p2), none, none] [.int r1]
  refine Gx_if_ne (off := 9) (tgt := 13) (by decide +kernel) (by decide) (fun z => ?_) (fun z => ?_)
  · have h := h.1 z
    refine Gx_run (es := eX4_whatIs_13) (P := []) (M' := M1) (L' := [some (.ref 50), some (.int p1), some (.int p2), none, none]) (st' := [.int (1 : Int32), .int (0 : Int32), .int p2]) (pc' := 16) kX4_whatIs_13 rfl trivial rfl ?_
    refine Gx_callS (As := [.int p2, .int (0 : Int32), .int (1 : Int32)]) (by decide +kernel) ml_4_43 okX4_in mvX4_in rfl (by decide) (Nat.le_of_ble_eq_true rfl) (tX4_in h) (fun rr M16 qq => ?_)
    obtain ⟨r16, rfl, h⟩ := qq
    show Gx l E mX4_whatIs _ 19 M16 [some (.ref 50), some (.int p1), some (.int p2), none, none] [.int r16]
    refine Gx_if_ne (off := 10) (tgt := 29) (by decide +kernel) (by decide) (fun z => ?_) (fun z => ?_)
    · have h := h.1 z
      refine Gx_run (es := eX4_whatIs_29) (P := []) (M' := M16) (L' := [some (.ref 50), some (.int p1), some (.int p2), none, none]) (st' := [.ref 50]) (pc' := 30) kX4_whatIs_29 rfl trivial rfl ?_
      refine Gx_callV (As := []) (by decide +kernel) ml_4_196 okX4_keeps mvX4_keeps rfl (by decide) (Nat.le_of_ble_eq_true rfl) rfl rfl rfl (tX4_keeps h) (fun rr M30 qq => ?_)
      obtain ⟨rfl, h⟩ := qq
      show Gx l E mX4_whatIs _ 33 M30 [some (.ref 50), some (.int p1), some (.int p2), none, none] []
      refine Gx_run (es := eX4_whatIs_33) (P := []) (M' := M30) (L' := [some (.ref 50), some (.int p1), some (.int p2), some (.int (0 : Int32)), some (.int (0 : Int32))]) (st' := []) (pc' := 38) kX4_whatIs_33 rfl trivial rfl ?_
      refine Gx_mask [true, true, true, true, true] (L' := [some (.ref 50), some (.int p1), some (.int p2), some (.int (0 : Int32)), some (.int (0 : Int32))]) rfl ?_
      obtain ⟨n, h⟩ := h
      exact tX4_whatIs_38  n M30 (0 : Int32) (0 : Int32) h
    · have h := h.2 z
      refine Gx_run (es := eX4_whatIs_22) (P := []) (M' := M16) (L' := [some (.ref 50), some (.int p1), some (.int p2), none, none]) (st' := [.int (-2 : Int32), .ref 50]) (pc' := 25) kX4_whatIs_22 rfl trivial rfl ?_
      refine Gx_callV (As := [.int (-2 : Int32)]) (by decide +kernel) ml_4_55 okX4_refused mvX4_refused rfl (by decide) (Nat.le_of_ble_eq_true rfl) rfl rfl rfl (tX4_refused h) (fun rr M25 qq => ?_)
      obtain ⟨r25, rfl, h⟩ := qq
      show Gx l E mX4_whatIs _ 28 M25 [some (.ref 50), some (.int p1), some (.int p2), none, none] [.int r25]
      exact Gx_iret (by decide +kernel) rfl rfl ⟨_, rfl, h⟩
  · have h := h.2 z
    refine Gx_run (es := eX4_whatIs_7) (P := []) (M' := M1) (L' := [some (.ref 50), some (.int p1), some (.int p2), none, none]) (st' := [.int (-1 : Int32), .ref 50]) (pc' := 9) kX4_whatIs_7 rfl trivial rfl ?_
    refine Gx_callV (As := [.int (-1 : Int32)]) (by decide +kernel) ml_4_55 okX4_refused mvX4_refused rfl (by decide) (Nat.le_of_ble_eq_true rfl) rfl rfl rfl (tX4_refused h) (fun rr M9 qq => ?_)
    obtain ⟨r9, rfl, h⟩ := qq
    show Gx l E mX4_whatIs _ 12 M9 [some (.ref 50), some (.int p1), some (.int p2), none, none] [.int r9]
    exact Gx_iret (by decide +kernel) rfl rfl ⟨_, rfl, h⟩
def eX4_worst_0 : List xI := [(.aload_n 0, 1, 0, 0, 0)]
theorem kX4_worst_0 : xcode (xmb mX4_worst) (xmo mX4_worst) 0 eX4_worst_0 = true := by decide +kernel
def eX4_worst_4 : List xI := [(.bipush (-9), 2, 0, 0, (-9)), (.istore_n 1, 1, 0, 0, 0), (.iconst 1, 1, 0, 0, (1)), (.istore_n 2, 1, 0, 0, 0)]
theorem kX4_worst_4 : xcode (xmb mX4_worst) (xmo mX4_worst) 4 eX4_worst_4 = true := by decide +kernel
def eX4_worst_9 : List xI := [(.iload_n 2, 1, 0, 0, 0), (.bipush 16, 2, 0, 0, (16))]
theorem kX4_worst_9 : xcode (xmb mX4_worst) (xmo mX4_worst) 9 eX4_worst_9 = true := by decide +kernel
def eX4_worst_64 : List xI := [(.iload_n 1, 1, 0, 0, 0)]
theorem kX4_worst_64 : xcode (xmb mX4_worst) (xmo mX4_worst) 64 eX4_worst_64 = true := by decide +kernel
def eX4_worst_15 : List xI := [(.aload_n 0, 1, 0, 0, 0), (.iload_n 2, 1, 0, 0, 0)]
theorem kX4_worst_15 : xcode (xmb mX4_worst) (xmo mX4_worst) 15 eX4_worst_15 = true := by decide +kernel
def eX4_worst_46 : List xI := [(.iconst 0, 1, 0, 0, (0))]
theorem kX4_worst_46 : xcode (xmb mX4_worst) (xmo mX4_worst) 46 eX4_worst_46 = true := by decide +kernel
def eX4_worst_47 : List xI := [(.istore_n 3, 1, 0, 0, 0), (.iload_n 3, 1, 0, 0, 0)]
theorem kX4_worst_47 : xcode (xmb mX4_worst) (xmo mX4_worst) 47 eX4_worst_47 = true := by decide +kernel
def eX4_worst_56 : List xI := [(.iload_n 1, 1, 0, 0, 0)]
theorem kX4_worst_56 : xcode (xmb mX4_worst) (xmo mX4_worst) 56 eX4_worst_56 = true := by decide +kernel
def eX4_worst_57 : List xI := [(.istore_n 1, 1, 0, 0, 0), (.iinc 2 1, 3, 0, 0, (1))]
theorem kX4_worst_57 : xcode (xmb mX4_worst) (xmo mX4_worst) 57 eX4_worst_57 = true := by decide +kernel
def eX4_worst_52 : List xI := [(.iload_n 2, 1, 0, 0, 0)]
theorem kX4_worst_52 : xcode (xmb mX4_worst) (xmo mX4_worst) 52 eX4_worst_52 = true := by decide +kernel
def eX4_worst_23 : List xI := [(.iload_n 1, 1, 0, 0, 0), (.bipush (-9), 2, 0, 0, (-9))]
theorem kX4_worst_23 : xcode (xmb mX4_worst) (xmo mX4_worst) 23 eX4_worst_23 = true := by decide +kernel
def eX4_worst_42 : List xI := [(.iconst 1, 1, 0, 0, (1))]
theorem kX4_worst_42 : xcode (xmb mX4_worst) (xmo mX4_worst) 42 eX4_worst_42 = true := by decide +kernel
def eX4_worst_29 : List xI := [(.aload_n 0, 1, 0, 0, 0), (.iload_n 2, 1, 0, 0, 0)]
theorem kX4_worst_29 : xcode (xmb mX4_worst) (xmo mX4_worst) 29 eX4_worst_29 = true := by decide +kernel
def eX4_worst_34 : List xI := [(.aload_n 0, 1, 0, 0, 0), (.iload_n 1, 1, 0, 0, 0)]
theorem kX4_worst_34 : xcode (xmb mX4_worst) (xmo mX4_worst) 34 eX4_worst_34 = true := by decide +kernel
def wX4_worst_57 (Q : Int32 → xM → Prop) (k9 : xM → Int32 → Int32 → Prop) (M : xM) (a2 : Int32) (s0 : Int32) : Prop :=
    k9 M s0 (a2 + (1 : Int32))
set_option maxHeartbeats 4000000 in
set_option maxRecDepth 100000 in
theorem tX4_worst_57 {l : Launch} {E : xE} {Q : Int32 → xM → Prop} {k9 : xM → Int32 → Int32 → Prop} (hk9 : ∀ (M : xM) (a1 : Int32) (a2 : Int32), k9 M a1 a2 → Gx l E mX4_worst (xRi Q) 9 M [some (.ref 50), some (.int a1), some (.int a2), none] []) (M : xM) (a2 : Int32) (s0 : Int32) (h : wX4_worst_57  Q k9 M a2 s0) : Gx l E mX4_worst (xRi Q) 57 M [some (.ref 50), none, some (.int a2), none] [.int s0] := by
  unfold wX4_worst_57 at h
  refine Gx_run (es := eX4_worst_57) (P := []) (M' := M) (L' := [some (.ref 50), some (.int s0), some (.int (a2 + (1 : Int32))), none]) (st' := []) (pc' := 61) kX4_worst_57 rfl trivial rfl ?_
  refine Gx_goto (off := -52) (tgt := 9) (by decide +kernel) (by decide) ?_
  refine Gx_mask [true, true, true, false] (L' := [some (.ref 50), some (.int s0), some (.int (a2 + (1 : Int32))), none]) rfl ?_
  exact hk9 M s0 (a2 + (1 : Int32)) h
def wX4_worst_47 (Q : Int32 → xM → Prop) (k9 : xM → Int32 → Int32 → Prop) (M : xM) (a1 : Int32) (a2 : Int32) (s0 : Int32) : Prop :=
    (((s0 = 0) → (wX4_worst_57  Q k9 M a2 a1)) ∧ ((¬ s0 = 0) → (wX4_worst_57  Q k9 M a2 a2)))
set_option maxHeartbeats 4000000 in
set_option maxRecDepth 100000 in
theorem tX4_worst_47 {l : Launch} {E : xE} {Q : Int32 → xM → Prop} {k9 : xM → Int32 → Int32 → Prop} (hk9 : ∀ (M : xM) (a1 : Int32) (a2 : Int32), k9 M a1 a2 → Gx l E mX4_worst (xRi Q) 9 M [some (.ref 50), some (.int a1), some (.int a2), none] []) (M : xM) (a1 : Int32) (a2 : Int32) (s0 : Int32) (h : wX4_worst_47  Q k9 M a1 a2 s0) : Gx l E mX4_worst (xRi Q) 47 M [some (.ref 50), some (.int a1), some (.int a2), none] [.int s0] := by
  unfold wX4_worst_47 at h
  refine Gx_run (es := eX4_worst_47) (P := []) (M' := M) (L' := [some (.ref 50), some (.int a1), some (.int a2), some (.int s0)]) (st' := [.int s0]) (pc' := 49) kX4_worst_47 rfl trivial rfl ?_
  refine Gx_if_eq (off := 7) (tgt := 56) (by decide +kernel) (by decide) (fun z => ?_) (fun z => ?_)
  · have h := h.1 z
    refine Gx_run (es := eX4_worst_56) (P := []) (M' := M) (L' := [some (.ref 50), some (.int a1), some (.int a2), some (.int s0)]) (st' := [.int a1]) (pc' := 57) kX4_worst_56 rfl trivial rfl ?_
    refine Gx_mask [true, false, true, false] (L' := [some (.ref 50), none, some (.int a2), none]) rfl ?_
    exact tX4_worst_57  hk9 M a2 a1 h
  · have h := h.2 z
    refine Gx_run (es := eX4_worst_52) (P := []) (M' := M) (L' := [some (.ref 50), some (.int a1), some (.int a2), some (.int s0)]) (st' := [.int a2]) (pc' := 53) kX4_worst_52 rfl trivial rfl ?_
    refine Gx_goto (off := 4) (tgt := 57) (by decide +kernel) (by decide) ?_
    refine Gx_mask [true, false, true, false] (L' := [some (.ref 50), none, some (.int a2), none]) rfl ?_
    exact tX4_worst_57  hk9 M a2 a2 h
def wX4_worst_46 (Q : Int32 → xM → Prop) (k9 : xM → Int32 → Int32 → Prop) (M : xM) (a1 : Int32) (a2 : Int32) : Prop :=
    wX4_worst_47  Q k9 M a1 a2 (0 : Int32)
set_option maxHeartbeats 4000000 in
set_option maxRecDepth 100000 in
theorem tX4_worst_46 {l : Launch} {E : xE} {Q : Int32 → xM → Prop} {k9 : xM → Int32 → Int32 → Prop} (hk9 : ∀ (M : xM) (a1 : Int32) (a2 : Int32), k9 M a1 a2 → Gx l E mX4_worst (xRi Q) 9 M [some (.ref 50), some (.int a1), some (.int a2), none] []) (M : xM) (a1 : Int32) (a2 : Int32) (h : wX4_worst_46  Q k9 M a1 a2) : Gx l E mX4_worst (xRi Q) 46 M [some (.ref 50), some (.int a1), some (.int a2), none] [] := by
  unfold wX4_worst_46 at h
  refine Gx_run (es := eX4_worst_46) (P := []) (M' := M) (L' := [some (.ref 50), some (.int a1), some (.int a2), none]) (st' := [.int (0 : Int32)]) (pc' := 47) kX4_worst_46 rfl trivial rfl ?_
  refine Gx_mask [true, true, true, false] (L' := [some (.ref 50), some (.int a1), some (.int a2), none]) rfl ?_
  exact tX4_worst_47  hk9 M a1 a2 (0 : Int32) h
def wX4_worst_42 (Q : Int32 → xM → Prop) (k9 : xM → Int32 → Int32 → Prop) (M : xM) (a1 : Int32) (a2 : Int32) : Prop :=
    wX4_worst_47  Q k9 M a1 a2 (1 : Int32)
set_option maxHeartbeats 4000000 in
set_option maxRecDepth 100000 in
theorem tX4_worst_42 {l : Launch} {E : xE} {Q : Int32 → xM → Prop} {k9 : xM → Int32 → Int32 → Prop} (hk9 : ∀ (M : xM) (a1 : Int32) (a2 : Int32), k9 M a1 a2 → Gx l E mX4_worst (xRi Q) 9 M [some (.ref 50), some (.int a1), some (.int a2), none] []) (M : xM) (a1 : Int32) (a2 : Int32) (h : wX4_worst_42  Q k9 M a1 a2) : Gx l E mX4_worst (xRi Q) 42 M [some (.ref 50), some (.int a1), some (.int a2), none] [] := by
  unfold wX4_worst_42 at h
  refine Gx_run (es := eX4_worst_42) (P := []) (M' := M) (L' := [some (.ref 50), some (.int a1), some (.int a2), none]) (st' := [.int (1 : Int32)]) (pc' := 43) kX4_worst_42 rfl trivial rfl ?_
  refine Gx_goto (off := 4) (tgt := 47) (by decide +kernel) (by decide) ?_
  refine Gx_mask [true, true, true, false] (L' := [some (.ref 50), some (.int a1), some (.int a2), none]) rfl ?_
  exact tX4_worst_47  hk9 M a1 a2 (1 : Int32) h
def lX4_worst_9 (Q : Int32 → xM → Prop) : Nat → xM → Int32 → Int32 → Prop
  | 0 => fun _ _ _ => False
  | n + 1 => let k9 := lX4_worst_9  Q n; fun M a1 a2 =>
    ((((16 : Int32) < a2) → (Q a1 M)) ∧ ((¬ (16 : Int32) < a2) → (wX4_manyOf M a2 (fun r17 M17 => (((r17 ≤ 0) → (wX4_worst_46  Q k9 M17 a1 a2)) ∧ ((¬ r17 ≤ 0) → ((((a1 = (-9 : Int32)) → (wX4_worst_42  Q k9 M17 a1 a2)) ∧ ((¬ a1 = (-9 : Int32)) → (wX4_manyOf M17 a2 (fun r31 M31 => wX4_manyOf M31 a1 (fun r36 M36 => (((r31 ≤ r36) → (wX4_worst_46  Q k9 M36 a1 a2)) ∧ ((¬ r31 ≤ r36) → (wX4_worst_42  Q k9 M36 a1 a2)))))))))))))))
set_option maxHeartbeats 4000000 in
set_option maxRecDepth 100000 in
theorem tX4_worst_9 {l : Launch} {E : xE} {Q : Int32 → xM → Prop} (n : Nat) : ∀ (M : xM) (a1 : Int32) (a2 : Int32), lX4_worst_9  Q n M a1 a2 → Gx l E mX4_worst (xRi Q) 9 M [some (.ref 50), some (.int a1), some (.int a2), none] [] := by
  induction n with
  | zero => intro M a1 a2 h; exact h.elim
  | succ n hk9 =>
      intro M a1 a2 h
      unfold lX4_worst_9 at h
      dsimp only at h
      refine Gx_run (es := eX4_worst_9) (P := []) (M' := M) (L' := [some (.ref 50), some (.int a1), some (.int a2), none]) (st' := [.int (16 : Int32), .int a2]) (pc' := 12) kX4_worst_9 rfl trivial rfl ?_
      refine Gx_icmp_gt (off := 52) (tgt := 64) (by decide +kernel) (by decide) (fun z => ?_) (fun z => ?_)
      · have h := h.1 z
        refine Gx_run (es := eX4_worst_64) (P := []) (M' := M) (L' := [some (.ref 50), some (.int a1), some (.int a2), none]) (st' := [.int a1]) (pc' := 65) kX4_worst_64 rfl trivial rfl ?_
        exact Gx_iret (by decide +kernel) rfl rfl ⟨_, rfl, h⟩
      · have h := h.2 z
        refine Gx_run (es := eX4_worst_15) (P := []) (M' := M) (L' := [some (.ref 50), some (.int a1), some (.int a2), none]) (st' := [.int a2, .ref 50]) (pc' := 17) kX4_worst_15 rfl trivial rfl ?_
        refine Gx_callV (As := [.int a2]) (by decide +kernel) ml_4_205 okX4_manyOf mvX4_manyOf rfl (by decide) (Nat.le_of_ble_eq_true rfl) rfl rfl rfl (tX4_manyOf h) (fun rr M17 qq => ?_)
        obtain ⟨r17, rfl, h⟩ := qq
        show Gx l E mX4_worst _ 20 M17 [some (.ref 50), some (.int a1), some (.int a2), none] [.int r17]
        refine Gx_if_le (off := 26) (tgt := 46) (by decide +kernel) (by decide) (fun z => ?_) (fun z => ?_)
        · have h := h.1 z
          refine Gx_mask [true, true, true, false] (L' := [some (.ref 50), some (.int a1), some (.int a2), none]) rfl ?_
          exact tX4_worst_46  hk9 M17 a1 a2 h
        · have h := h.2 z
          refine Gx_run (es := eX4_worst_23) (P := []) (M' := M17) (L' := [some (.ref 50), some (.int a1), some (.int a2), none]) (st' := [.int (-9 : Int32), .int a1]) (pc' := 26) kX4_worst_23 rfl trivial rfl ?_
          refine Gx_icmp_eq (off := 16) (tgt := 42) (by decide +kernel) (by decide) (fun z => ?_) (fun z => ?_)
          · have h := h.1 z
            refine Gx_mask [true, true, true, false] (L' := [some (.ref 50), some (.int a1), some (.int a2), none]) rfl ?_
            exact tX4_worst_42  hk9 M17 a1 a2 h
          · have h := h.2 z
            refine Gx_run (es := eX4_worst_29) (P := []) (M' := M17) (L' := [some (.ref 50), some (.int a1), some (.int a2), none]) (st' := [.int a2, .ref 50]) (pc' := 31) kX4_worst_29 rfl trivial rfl ?_
            refine Gx_callV (As := [.int a2]) (by decide +kernel) ml_4_205 okX4_manyOf mvX4_manyOf rfl (by decide) (Nat.le_of_ble_eq_true rfl) rfl rfl rfl (tX4_manyOf h) (fun rr M31 qq => ?_)
            obtain ⟨r31, rfl, h⟩ := qq
            show Gx l E mX4_worst _ 34 M31 [some (.ref 50), some (.int a1), some (.int a2), none] [.int r31]
            refine Gx_run (es := eX4_worst_34) (P := []) (M' := M31) (L' := [some (.ref 50), some (.int a1), some (.int a2), none]) (st' := [.int a1, .ref 50, .int r31]) (pc' := 36) kX4_worst_34 rfl trivial rfl ?_
            refine Gx_callV (As := [.int a1]) (by decide +kernel) ml_4_205 okX4_manyOf mvX4_manyOf rfl (by decide) (Nat.le_of_ble_eq_true rfl) rfl rfl rfl (tX4_manyOf h) (fun rr M36 qq => ?_)
            obtain ⟨r36, rfl, h⟩ := qq
            show Gx l E mX4_worst _ 39 M36 [some (.ref 50), some (.int a1), some (.int a2), none] [.int r36, .int r31]
            refine Gx_icmp_le (off := 7) (tgt := 46) (by decide +kernel) (by decide) (fun z => ?_) (fun z => ?_)
            · have h := h.1 z
              refine Gx_mask [true, true, true, false] (L' := [some (.ref 50), some (.int a1), some (.int a2), none]) rfl ?_
              exact tX4_worst_46  hk9 M36 a1 a2 h
            · have h := h.2 z
              refine Gx_mask [true, true, true, false] (L' := [some (.ref 50), some (.int a1), some (.int a2), none]) rfl ?_
              exact tX4_worst_42  hk9 M36 a1 a2 h
def wX4_worst (M : xM) (Q : Int32 → xM → Prop) : Prop :=
    wX4_thinks M (fun M1 => (∃ n : Nat, lX4_worst_9  Q n M1 (-9 : Int32) (1 : Int32)))
set_option maxHeartbeats 4000000 in
set_option maxRecDepth 100000 in
theorem tX4_worst {l : Launch} {E : xE} {M : xM} {Q : Int32 → xM → Prop} (h : wX4_worst M  Q) : Ct l E mX4_worst [.ref 50] M (xRi Q) := by
  refine Ct_of (by decide +kernel) rfl (Nat.le_of_ble_eq_true rfl) ?_
  unfold wX4_worst at h
  show Gx l E mX4_worst (xRi Q) 0 M [some (.ref 50), none, none, none] []
  refine Gx_run (es := eX4_worst_0) (P := []) (M' := M) (L' := [some (.ref 50), none, none, none]) (st' := [.ref 50]) (pc' := 1) kX4_worst_0 rfl trivial rfl ?_
  refine Gx_callV (As := []) (by decide +kernel) ml_4_202 okX4_thinks mvX4_thinks rfl (by decide) (Nat.le_of_ble_eq_true rfl) rfl rfl rfl (tX4_thinks h) (fun rr M1 qq => ?_)
  obtain ⟨rfl, h⟩ := qq
  show Gx l E mX4_worst _ 4 M1 [some (.ref 50), none, none, none] []
  refine Gx_run (es := eX4_worst_4) (P := []) (M' := M1) (L' := [some (.ref 50), some (.int (-9 : Int32)), some (.int (1 : Int32)), none]) (st' := []) (pc' := 9) kX4_worst_4 rfl trivial rfl ?_
  refine Gx_mask [true, true, true, false] (L' := [some (.ref 50), some (.int (-9 : Int32)), some (.int (1 : Int32)), none]) rfl ?_
  obtain ⟨n, h⟩ := h
  exact tX4_worst_9  n M1 (-9 : Int32) (1 : Int32) h
def eX1_fault_0 : List xI := [(.aload_n 0, 1, 0, 0, 0)]
theorem kX1_fault_0 : xcode (xmb mX1_fault) (xmo mX1_fault) 0 eX1_fault_0 = true := by decide +kernel
def eX1_fault_4 : List xI := [(.istore_n 1, 1, 0, 0, 0), (.iload_n 1, 1, 0, 0, 0), (.bipush (-9), 2, 0, 0, (-9))]
theorem kX1_fault_4 : xcode (xmb mX1_fault) (xmo mX1_fault) 4 eX1_fault_4 = true := by decide +kernel
def eX1_fault_17 : List xI := [(.aload_n 0, 1, 0, 0, 0)]
theorem kX1_fault_17 : xcode (xmb mX1_fault) (xmo mX1_fault) 17 eX1_fault_17 = true := by decide +kernel
def eX1_fault_21 : List xI := [(.istore_n 1, 1, 0, 0, 0), (.iload_n 1, 1, 0, 0, 0), (.bipush (-9), 2, 0, 0, (-9))]
theorem kX1_fault_21 : xcode (xmb mX1_fault) (xmo mX1_fault) 21 eX1_fault_21 = true := by decide +kernel
def eX1_fault_36 : List xI := [(.iconst 0, 1, 0, 0, (0))]
theorem kX1_fault_36 : xcode (xmb mX1_fault) (xmo mX1_fault) 36 eX1_fault_36 = true := by decide +kernel
def eX1_fault_28 : List xI := [(.sipush (-2000), 3, 0, 0, (-2000)), (.iload_n 1, 1, 0, 0, 0), (.isub, 1, 0, 0, 0)]
theorem kX1_fault_28 : xcode (xmb mX1_fault) (xmo mX1_fault) 28 eX1_fault_28 = true := by decide +kernel
def eX1_fault_11 : List xI := [(.sipush (-1000), 3, 0, 0, (-1000)), (.iload_n 1, 1, 0, 0, 0), (.isub, 1, 0, 0, 0)]
theorem kX1_fault_11 : xcode (xmb mX1_fault) (xmo mX1_fault) 11 eX1_fault_11 = true := by decide +kernel
def wX1_fault_37 (Q : Int32 → xM → Prop) (M : xM) (s0 : Int32) : Prop :=
    Q s0 M
set_option maxHeartbeats 4000000 in
set_option maxRecDepth 100000 in
theorem tX1_fault_37 {l : Launch} {E : xE} {Q : Int32 → xM → Prop} (M : xM) (s0 : Int32) (h : wX1_fault_37  Q M s0) : Gx l E mX1_fault (xRi Q) 37 M [none, none] [.int s0] := by
  unfold wX1_fault_37 at h
  exact Gx_iret (by decide +kernel) rfl rfl ⟨_, rfl, h⟩
def wX1_fault (M : xM) (Q : Int32 → xM → Prop) : Prop :=
    wX1_placeOfWrongLetter M (fun r1 M1 => (((r1 = (-9 : Int32)) → (wX1_placeOfWrongStatement M1 (fun r18 M18 => (((r18 = (-9 : Int32)) → (wX1_fault_37  Q M18 (0 : Int32))) ∧ ((¬ r18 = (-9 : Int32)) → (wX1_fault_37  Q M18 ((-2000 : Int32) - r18))))))) ∧ ((¬ r1 = (-9 : Int32)) → (Q ((-1000 : Int32) - r1) M1))))
set_option maxHeartbeats 4000000 in
set_option maxRecDepth 100000 in
theorem tX1_fault {l : Launch} {E : xE} {M : xM} {Q : Int32 → xM → Prop} (h : wX1_fault M  Q) : Ct l E mX1_fault [.ref 46] M (xRi Q) := by
  refine Ct_of (by decide +kernel) rfl (Nat.le_of_ble_eq_true rfl) ?_
  unfold wX1_fault at h
  show Gx l E mX1_fault (xRi Q) 0 M [some (.ref 46), none] []
  refine Gx_run (es := eX1_fault_0) (P := []) (M' := M) (L' := [some (.ref 46), none]) (st' := [.ref 46]) (pc' := 1) kX1_fault_0 rfl trivial rfl ?_
  refine Gx_callV (As := []) (by decide +kernel) ml_1_41 okX1_placeOfWrongLetter mvX1_placeOfWrongLetter rfl (by decide) (Nat.le_of_ble_eq_true rfl) rfl rfl rfl (tX1_placeOfWrongLetter h) (fun rr M1 qq => ?_)
  obtain ⟨r1, rfl, h⟩ := qq
  show Gx l E mX1_fault _ 4 M1 [some (.ref 46), none] [.int r1]
  refine Gx_run (es := eX1_fault_4) (P := []) (M' := M1) (L' := [some (.ref 46), some (.int r1)]) (st' := [.int (-9 : Int32), .int r1]) (pc' := 8) kX1_fault_4 rfl trivial rfl ?_
  refine Gx_icmp_eq (off := 9) (tgt := 17) (by decide +kernel) (by decide) (fun z => ?_) (fun z => ?_)
  · have h := h.1 z
    refine Gx_run (es := eX1_fault_17) (P := []) (M' := M1) (L' := [some (.ref 46), some (.int r1)]) (st' := [.ref 46]) (pc' := 18) kX1_fault_17 rfl trivial rfl ?_
    refine Gx_callV (As := []) (by decide +kernel) ml_1_44 okX1_placeOfWrongStatement mvX1_placeOfWrongStatement rfl (by decide) (Nat.le_of_ble_eq_true rfl) rfl rfl rfl (tX1_placeOfWrongStatement h) (fun rr M18 qq => ?_)
    obtain ⟨r18, rfl, h⟩ := qq
    show Gx l E mX1_fault _ 21 M18 [some (.ref 46), some (.int r1)] [.int r18]
    refine Gx_run (es := eX1_fault_21) (P := []) (M' := M18) (L' := [some (.ref 46), some (.int r18)]) (st' := [.int (-9 : Int32), .int r18]) (pc' := 25) kX1_fault_21 rfl trivial rfl ?_
    refine Gx_icmp_eq (off := 11) (tgt := 36) (by decide +kernel) (by decide) (fun z => ?_) (fun z => ?_)
    · have h := h.1 z
      refine Gx_run (es := eX1_fault_36) (P := []) (M' := M18) (L' := [some (.ref 46), some (.int r18)]) (st' := [.int (0 : Int32)]) (pc' := 37) kX1_fault_36 rfl trivial rfl ?_
      refine Gx_mask [false, false] (L' := [none, none]) rfl ?_
      exact tX1_fault_37  M18 (0 : Int32) h
    · have h := h.2 z
      refine Gx_run (es := eX1_fault_28) (P := []) (M' := M18) (L' := [some (.ref 46), some (.int r18)]) (st' := [.int ((-2000 : Int32) - r18)]) (pc' := 33) kX1_fault_28 rfl trivial rfl ?_
      refine Gx_goto (off := 4) (tgt := 37) (by decide +kernel) (by decide) ?_
      refine Gx_mask [false, false] (L' := [none, none]) rfl ?_
      exact tX1_fault_37  M18 ((-2000 : Int32) - r18) h
  · have h := h.2 z
    refine Gx_run (es := eX1_fault_11) (P := []) (M' := M1) (L' := [some (.ref 46), some (.int r1)]) (st' := [.int ((-1000 : Int32) - r1)]) (pc' := 16) kX1_fault_11 rfl trivial rfl ?_
    exact Gx_iret (by decide +kernel) rfl rfl ⟨_, rfl, h⟩
