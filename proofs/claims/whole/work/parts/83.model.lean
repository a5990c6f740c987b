/-! the reference's constructor -/
def modW (cI : ClassId) (h q1 q2 q3 q4 q5 q6 q7 q8 q9 : Nat) (f : Nat → Int32) : va_W := [(h, .inr (4, [.int 0, .ref q1, .ref q2, .ref q3, .int 0, .ref q4, .ref q5, .int 0, .int 0, .int 0, .int 0, .ref q6, .ref q7, .ref q8, .int 0, .ref q9, .int 0, .int 0])), (q1, .inl (cI, 147, .inl f)), (q2, .inl (cI, 147, .inl zF)), (q3, .inl (cI, 147, .inl zF)), (q4, .inl (cI, 17, .inl zF)), (q5, .inl (cI, 96, .inl zF)), (q6, .inl (cI, 400, .inl zF)), (q7, .inl (cI, 400, .inl zF)), (q8, .inl (cI, 400, .inl zF)), (q9, .inl (cI, 32, .inl zF))]
def rgF (f : Nat → Int32) (lo : Nat) (x : Int32) (i : Nat) : Nat → Int32 := fun j => if lo ≤ j ∧ j < lo + i then x else f j
theorem rgF_0 (f : Nat → Int32) (lo : Nat) (x : Int32) : rgF f lo x 0 = f := funext fun j => if_neg (by omega)
theorem rgF_s (f : Nat → Int32) (lo : Nat) (x : Int32) (i : Nat) : upd (rgF f lo x i) (lo + i) x = rgF f lo x (i + 1) := by
  funext j
  unfold upd rgF
  by_cases e : j = lo + i
  · rw [if_pos e, if_pos (by omega)]
  · rw [if_neg e]
    by_cases z : lo ≤ j ∧ j < lo + i
    · rw [if_pos z, if_pos (by omega)]
    · rw [if_neg z, if_neg (by omega)]
def mF0 : Nat → Int32 := upd zF 0 2
def mF1 : Nat → Int32 := rgF mF0 30 99 30
def mF2 : Nat → Int32 := rgF mF1 60 (-1) 60
def modR (cI : ClassId) (h : Nat) (w : va_W) : Prop := ∃ q1 q2 q3 q4 q5 q6 q7 q8 q9, w = modW cI h q1 q2 q3 q4 q5 q6 q7 q8 q9 mF2
theorem modW_set {cI : ClassId} {h q1 q2 q3 q4 q5 q6 q7 q8 q9 : Nat} {f g : Nat → Int32} : (modW cI h q1 q2 q3 q4 q5 q6 q7 q8 q9 f).set 1 (q1, .inl (cI, 147, .inl g)) = modW cI h q1 q2 q3 q4 q5 q6 q7 q8 q9 g := rfl
set_option maxRecDepth 100000 in
set_option maxHeartbeats 4000000 in
/-- the reference, made -/
theorem cy_Model {l : Launch} {D : va_G} {cI : ClassId} {h : Nat} : yMet l D cI mX4_init [.ref h] [(h, .inr (4, [.int 0, .null, .null, .null, .int 0, .null, .null, .int 0, .int 0, .int 0, .int 0, .null, .null, .null, .int 0, .null, .int 0, .int 0]))] 9 1786 (modR cI h) := by
  refine yMet_of (by decide +kernel) rfl rfl (Nat.le_of_ble_eq_true rfl) (fun A => ?_)
  show Gy l D cI mX4_init A _ 9 1786 0 [(h, .inr (4, [.int 0, .null, .null, .null, .int 0, .null, .null, .int 0, .int 0, .int 0, .int 0, .null, .null, .null, .int 0, .null, .int 0, .int 0]))] 0 0 [(0, .ref h)] []
  refine Gy_aload (i := 0) (t := 0) (by decide +kernel) rfl rfl ?_
  refine Gy_obj (idx := 1) (by decide +kernel) (xTbl_in 804 (by decide +kernel) rfl) (by decide) ?_
  refine Gy_arrS (ci := 4) (t := 1) (t0 := 0) (N := 147) (i := 147) (idx := 7) yc4 (by decide +kernel) (by decide +kernel) rfl (by decide +kernel) (by decide +kernel) (xTbl_in 805 (by decide +kernel) rfl) (by decide) rfl rfl rfl (fun _ => rfl) (fun _ => rfl) (Nat.le_of_ble_eq_true rfl) (by decide) (by decide) (by decide) rfl (fun q1 => ?_)
  refine Gy_arrS (ci := 4) (t := 2) (t0 := 0) (N := 147) (i := 147) (idx := 13) yc4 (by decide +kernel) (by decide +kernel) rfl (by decide +kernel) (by decide +kernel) (xTbl_in 806 (by decide +kernel) rfl) (by decide) rfl rfl rfl (fun _ => rfl) (fun _ => rfl) (Nat.le_of_ble_eq_true rfl) (by decide) (by decide) (by decide) rfl (fun q2 => ?_)
  refine Gy_arrS (ci := 4) (t := 3) (t0 := 0) (N := 147) (i := 147) (idx := 16) yc4 (by decide +kernel) (by decide +kernel) rfl (by decide +kernel) (by decide +kernel) (xTbl_in 807 (by decide +kernel) rfl) (by decide) rfl rfl rfl (fun _ => rfl) (fun _ => rfl) (Nat.le_of_ble_eq_true rfl) (by decide) (by decide) (by decide) rfl (fun q3 => ?_)
  refine Gy_arrB (ci := 4) (t := 5) (t0 := 0) (N := 17) (i := 17) (idx := 19) yc4 (by decide +kernel) (by decide +kernel) rfl (by decide +kernel) (by decide +kernel) (xTbl_in 809 (by decide +kernel) rfl) (by decide) rfl rfl rfl (fun _ => rfl) (fun _ => rfl) (Nat.le_of_ble_eq_true rfl) (by decide) (by decide) (by decide) rfl (fun q4 => ?_)
  refine Gy_arrB (ci := 4) (t := 6) (t0 := 0) (N := 96) (i := 96) (idx := 22) yc4 (by decide +kernel) (by decide +kernel) rfl (by decide +kernel) (by decide +kernel) (xTbl_in 810 (by decide +kernel) rfl) (by decide) rfl rfl rfl (fun _ => rfl) (fun _ => rfl) (Nat.le_of_ble_eq_true rfl) (by decide) (by decide) (by decide) rfl (fun q5 => ?_)
  refine Gy_arrS (ci := 4) (t := 11) (t0 := 0) (N := 400) (i := 400) (idx := 25) yc4 (by decide +kernel) (by decide +kernel) rfl (by decide +kernel) (by decide +kernel) (xTbl_in 815 (by decide +kernel) rfl) (by decide) rfl rfl rfl (fun _ => rfl) (fun _ => rfl) (Nat.le_of_ble_eq_true rfl) (by decide) (by decide) (by decide) rfl (fun q6 => ?_)
  refine Gy_arrS (ci := 4) (t := 12) (t0 := 0) (N := 400) (i := 400) (idx := 28) yc4 (by decide +kernel) (by decide +kernel) rfl (by decide +kernel) (by decide +kernel) (xTbl_in 816 (by decide +kernel) rfl) (by decide) rfl rfl rfl (fun _ => rfl) (fun _ => rfl) (Nat.le_of_ble_eq_true rfl) (by decide) (by decide) (by decide) rfl (fun q7 => ?_)
  refine Gy_arrS (ci := 4) (t := 13) (t0 := 0) (N := 400) (i := 400) (idx := 31) yc4 (by decide +kernel) (by decide +kernel) rfl (by decide +kernel) (by decide +kernel) (xTbl_in 817 (by decide +kernel) rfl) (by decide) rfl rfl rfl (fun _ => rfl) (fun _ => rfl) (Nat.le_of_ble_eq_true rfl) (by decide) (by decide) (by decide) rfl (fun q8 => ?_)
  refine Gy_arrB (ci := 4) (t := 15) (t0 := 0) (N := 32) (i := 32) (idx := 34) yc4 (by decide +kernel) (by decide +kernel) rfl (by decide +kernel) (by decide +kernel) (xTbl_in 819 (by decide +kernel) rfl) (by decide) rfl rfl rfl (fun _ => rfl) (fun _ => rfl) (Nat.le_of_ble_eq_true rfl) (by decide) (by decide) (by decide) rfl (fun q9 => ?_)
  refine Gy_ws (ws' := modW cI h q1 q2 q3 q4 q5 q6 q7 q8 q9 zF) rfl ?_
  refine Gy_aload (i := 0) (t := 0) (by decide +kernel) rfl rfl ?_
  refine Gy_getf (ci := 4) (t := 1) (idx := 7) (q0 := 0) yc4 (by decide +kernel) (xTbl_in 805 (by decide +kernel) rfl) (by decide) rfl rfl ?_
  refine Gy_iconst (i := 0) (v := 0) (by decide +kernel) rfl ?_
  refine Gy_iconst (i := 2) (v := 2) (by decide +kernel) rfl ?_
  refine Gy_iast (q0 := 1) (by decide +kernel) rfl ((z_in (a := 0) (by omega) (by omega)).mpr (by omega)) ?_
  refine Gy_ws (ws' := modW cI h q1 q2 q3 q4 q5 q6 q7 q8 q9 mF0) rfl ?_
  have loop2 : ∀ c i, i + c = 60 → Gy l D cI mX4_init A (modR cI h) 9 1786 116 (modW cI h q1 q2 q3 q4 q5 q6 q7 q8 q9 (rgF mF1 60 (-1) i)) 9 1786 [(1, .int (nI i)), (0, .ref h)] [] := by
    intro c
    induction c with
    | zero =>
      intro i hi
      have e : i = 60 := by omega
      subst e
      refine Gy_iload (i := 1) (t := 0) (by decide +kernel) rfl rfl ?_
      refine Gy_bipush (i := 60) (v := nI 60) (by decide +kernel) rfl ?_
      refine Gy_icmp_ge (off := 19) (tgt := 138) (by decide +kernel) (by decide) (fun _ => ?_) (fun z => absurd (nI_le (Nat.le_refl _) (by omega)) z)
      exact Gy_vret (by decide +kernel) (by decide) (by decide) ⟨q1, q2, q3, q4, q5, q6, q7, q8, q9, rfl⟩
    | succ c ih =>
      intro i hi
      refine Gy_iload (i := 1) (t := 0) (by decide +kernel) rfl rfl ?_
      refine Gy_bipush (i := 60) (v := nI 60) (by decide +kernel) rfl ?_
      refine Gy_icmp_ge (off := 19) (tgt := 138) (by decide +kernel) (by decide) (fun z => ?_) (fun _ => ?_)
      · rw [z_le (by omega) (by omega)] at z; omega
      refine Gy_aload (i := 0) (t := 1) (by decide +kernel) rfl rfl ?_
      refine Gy_getf (ci := 4) (t := 1) (idx := 7) (q0 := 0) yc4 (by decide +kernel) (xTbl_in 805 (by decide +kernel) rfl) (by decide) rfl rfl ?_
      refine Gy_bipush (i := 60) (v := nI 60) (by decide +kernel) rfl ?_
      refine Gy_iload (i := 1) (t := 0) (by decide +kernel) rfl rfl ?_
      refine Gy_iadd (by decide +kernel) ?_
      refine Gy_iconst (i := -1) (v := -1) (by decide +kernel) rfl ?_
      rw [z_add]
      refine Gy_iast (q0 := 1) (by decide +kernel) rfl ((z_in (by omega) (by omega)).mpr (by omega)) ?_
      refine Gy_ws (ws' := modW cI h q1 q2 q3 q4 q5 q6 q7 q8 q9 (rgF mF1 60 (-1) (i + 1))) ?_ ?_
      · rw [modW_set, z_cl (by omega), rgF_s]
      refine Gy_iinc (j := 1) (i := 1) (t := 0) (v := nI (i + 1)) (lv' := [(1, .int (nI (i + 1))), (0, .ref h)]) (by decide +kernel) rfl (nI_1 i) (by decide) rfl ?_
      refine Gy_goto (off := -19) (tgt := 116) (by decide +kernel) (by decide) ?_
      exact ih (i + 1) (by omega)
  have loop1 : ∀ c i, i + c = 30 → Gy l D cI mX4_init A (modR cI h) 9 1786 91 (modW cI h q1 q2 q3 q4 q5 q6 q7 q8 q9 (rgF mF0 30 (99) i)) 9 1786 [(1, .int (nI i)), (0, .ref h)] [] := by
    intro c
    induction c with
    | zero =>
      intro i hi
      have e : i = 30 := by omega
      subst e
      refine Gy_iload (i := 1) (t := 0) (by decide +kernel) rfl rfl ?_
      refine Gy_bipush (i := 30) (v := nI 30) (by decide +kernel) rfl ?_
      refine Gy_icmp_ge (off := 20) (tgt := 114) (by decide +kernel) (by decide) (fun _ => ?_) (fun z => absurd (nI_le (Nat.le_refl _) (by omega)) z)
      refine Gy_iconst (i := 0) (v := 0) (by decide +kernel) rfl ?_
      refine Gy_istore (i := 1) (j := 1) (lv' := [(1, .int 0), (0, .ref h)]) (by decide +kernel) rfl (by decide) rfl ?_
      exact Gy_ws (by rw [rgF_0]; rfl) (loop2 60 0 (by omega))
    | succ c ih =>
      intro i hi
      refine Gy_iload (i := 1) (t := 0) (by decide +kernel) rfl rfl ?_
      refine Gy_bipush (i := 30) (v := nI 30) (by decide +kernel) rfl ?_
      refine Gy_icmp_ge (off := 20) (tgt := 114) (by decide +kernel) (by decide) (fun z => ?_) (fun _ => ?_)
      · rw [z_le (by omega) (by omega)] at z; omega
      refine Gy_aload (i := 0) (t := 1) (by decide +kernel) rfl rfl ?_
      refine Gy_getf (ci := 4) (t := 1) (idx := 7) (q0 := 0) yc4 (by decide +kernel) (xTbl_in 805 (by decide +kernel) rfl) (by decide) rfl rfl ?_
      refine Gy_bipush (i := 30) (v := nI 30) (by decide +kernel) rfl ?_
      refine Gy_iload (i := 1) (t := 0) (by decide +kernel) rfl rfl ?_
      refine Gy_iadd (by decide +kernel) ?_
      refine Gy_bipush (i := 99) (v := 99) (by decide +kernel) (by decide) ?_
      rw [z_add]
      refine Gy_iast (q0 := 1) (by decide +kernel) rfl ((z_in (by omega) (by omega)).mpr (by omega)) ?_
      refine Gy_ws (ws' := modW cI h q1 q2 q3 q4 q5 q6 q7 q8 q9 (rgF mF0 30 (99) (i + 1))) ?_ ?_
      · rw [modW_set, z_cl (by omega), rgF_s]
      refine Gy_iinc (j := 1) (i := 1) (t := 0) (v := nI (i + 1)) (lv' := [(1, .int (nI (i + 1))), (0, .ref h)]) (by decide +kernel) rfl (nI_1 i) (by decide) rfl ?_
      refine Gy_goto (off := -20) (tgt := 91) (by decide +kernel) (by decide) ?_
      exact ih (i + 1) (by omega)
  refine Gy_iconst (i := 0) (v := 0) (by decide +kernel) rfl ?_
  refine Gy_istore (i := 1) (j := 1) (lv' := [(1, .int 0), (0, .ref h)]) (by decide +kernel) rfl (by decide) rfl ?_
  exact Gy_ws (by rw [rgF_0]) (loop1 30 0 (by omega))
