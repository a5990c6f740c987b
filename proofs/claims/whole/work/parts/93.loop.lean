/-! the law's loop -/
def lwPcs : List Nat := [200, 223, 236, 269, 302, 335, 368, 401, 444, 497, 530, 573, 606, 639, 662, 675, 698, 731, 744, 757, 790, 823, 856, 879, 892, 915, 938, 951, 974, 1018, 1042, 1075, 1098, 1111, 1124, 1167, 1180, 1193]
def lwOffs : Array Int := #[168, 191, 204, 237, 270, 303, 336, 369, 412, 465, 498, 541, 574, 607, 630, 643, 666, 699, 712, 725, 758, 791, 824, 847, 860, 883, 906, 919, 942, 986, 1010, 1043, 1066, 1079, 1092, 1135, 1148, 1161]
theorem lw_tab : ∀ j, j < 38 → lwOffs[j]? = some ((lwPcs.getD j 0 : Int) - 32) := by decide +kernel
set_option maxRecDepth 100000 in
theorem lw_sw : decode code 32 = .ok (.tableswitch 1184 0 37 lwOffs, 168) := by decide +kernel
section L3
variable {l : Launch} {E : xE} {L : Nat} {xs : Nat → Int32} {M : xM} {i : Nat}
theorem lc_at (hi : i + 5 ≤ L) (hL : L ≤ 2560) (h : Inv M) (nx : ∀ M1, Inv M1 → Gl l E L xs 1216 M1 i []) : ∀ j, j < 38 → Gl l E L xs (lwPcs.getD j 0) M i []
  | 0, _ => lc_0 hi hL h nx
  | 1, _ => lc_1 hi hL h nx
  | 2, _ => lc_2 hi hL h nx
  | 3, _ => lc_3 hi hL h nx
  | 4, _ => lc_4 hi hL h nx
  | 5, _ => lc_5 hi hL h nx
  | 6, _ => lc_6 hi hL h nx
  | 7, _ => lc_7 hi hL h nx
  | 8, _ => lc_8 hi hL h nx
  | 9, _ => lc_9 hi hL h nx
  | 10, _ => lc_10 hi hL h nx
  | 11, _ => lc_11 hi hL h nx
  | 12, _ => lc_12 hi hL h nx
  | 13, _ => lc_13 hi hL h nx
  | 14, _ => lc_14 hi hL h nx
  | 15, _ => lc_15 hi hL h nx
  | 16, _ => lc_16 hi hL h nx
  | 17, _ => lc_17 hi hL h nx
  | 18, _ => lc_18 hi hL h nx
  | 19, _ => lc_19 hi hL h nx
  | 20, _ => lc_20 hi hL h nx
  | 21, _ => lc_21 hi hL h nx
  | 22, _ => lc_22 hi hL h nx
  | 23, _ => lc_23 hi hL h nx
  | 24, _ => lc_24 hi hL h nx
  | 25, _ => lc_25 hi hL h nx
  | 26, _ => lc_26 hi hL h nx
  | 27, _ => lc_27 hi hL h nx
  | 28, _ => lc_28 hi hL h nx
  | 29, _ => lc_29 hi hL h nx
  | 30, _ => lc_30 hi hL h nx
  | 31, _ => lc_31 hi hL h nx
  | 32, _ => lc_32 hi hL h nx
  | 33, _ => lc_33 hi hL h nx
  | 34, _ => lc_34 hi hL h nx
  | 35, _ => lc_35 hi hL h nx
  | 36, _ => lc_36 hi hL h nx
  | 37, _ => lc_37 hi hL h nx
  | j + 38, h => absurd h (by omega)
set_option maxRecDepth 100000 in
theorem law_next (hi : i < 5000) (k : Gl l E L xs 18 M (i + 5) []) : Gl l E L xs 1216 M i [] := by
  intro p e s mi below meth c H locs ls b C hP hD hS hL
  refine lv_iinc (v := nI (i + 5)) (lv' := [(3, .int (nI (i + 5))), (2, .ref (xeA E 50)), (1, .ref (xeA E 0)), (0, .ref b)]) C.1 C.2.1 (by decide +kernel) hL (i := 3) (n := 5) (k := 0) rfl (z_add i 5) (by decide) rfl (fun ls hl => ?_)
  refine lv_goto (off := -1201) (tgt := 18) C.1 C.2.1 (by decide +kernel) (by decide) ?_
  exact k p e s mi below meth c H locs ls b C hP hD hS hl
/-- the loop's head: out, or in -/
theorem law_head (hi : i < 5000) (hL : L ≤ 2560) (k : i + 5 ≤ L → Gl l E L xs 26 M i []) : Gl l E L xs 18 M i [] := by
  intro p e s mi below meth c H locs ls b C hP hD hS hl
  have C0 := C
  obtain ⟨hx, hb, hr, hml, hown, hts, hX, hbl, hlk, hK, hB⟩ := C
  have hbA : ¬ xA E b := by show ¬ xeB E ≤ b; omega
  refine lv_iload_n (k := 3) hx hb (by decide +kernel) rfl (lv_at hl 0 rfl) ?_
  refine lv_aload_n (k := 0) hx hb (by decide +kernel) rfl (lv_at hl 3 rfl) ?_
  refine va_slen hx hb hX hbl hbA hS (by decide +kernel) ?_
  refine lv_iconst (n := 5) (v := nI 5) hx hb (by decide +kernel) rfl ?_
  refine lv_isub hx hb (by decide +kernel) ?_
  have e0 : (nI L - nI 5).toInt = (L : Int) - 5 := pk_sub_toInt (by omega) (by omega)
  have e1 : (nI i).toInt = (i : Int) := nI_toInt (by omega)
  refine lv_icmp_gt (off := 1199) (tgt := 1222) hx hb (by decide +kernel) (by decide) (fun z => ?_) (fun z => ?_)
  · refine va_forget (fun q hq => ?_) ?_
    · have h1 : xeB E ≤ q.base := hS.2.2 q hq
      omega
    refine lv_iconst (n := 1) (v := 1) hx hb (by decide +kernel) rfl ?_
    exact lw_ret hx hb hr hlk (by decide +kernel)
  · refine k ?_ p e s mi below meth c H locs ls b C0 hP hD hS hl
    have z2 : ¬ nI L - nI 5 < nI i := z
    rw [Int32.lt_iff_toInt_lt, e0, e1] at z2
    omega
set_option maxRecDepth 100000 in
theorem law_turn (hi : i + 5 ≤ L) (hL : L ≤ 2560) (h : Inv M) (nx : ∀ M1, Inv M1 → Gl l E L xs 1216 M1 i []) : Gl l E L xs 26 M i [] := by
  intro p e s mi below meth c H locs ls b C hP hD hS hl
  have C0 := C
  obtain ⟨hx, hb, hr, hml, hown, hts, hX, hbl, hlk, hK, hB⟩ := C
  have hbA : ¬ xA E b := by show ¬ xeB E ≤ b; omega
  refine lv_aload_n (k := 0) hx hb (by decide +kernel) rfl (lv_at hl 3 rfl) ?_
  refine lv_iload_n (k := 3) hx hb (by decide +kernel) rfl (lv_at hl 0 rfl) ?_
  refine va_sld hx hb hX hbl hbA hS ((z_in (by omega) (by omega)).mpr (by omega)) (by decide +kernel) ?_
  refine lv_bipush (n := 63) (v := 63) hx hb (by decide +kernel) (by decide) ?_
  refine lv_iand hx hb (by decide +kernel) ?_
  obtain ⟨j, hj, ej⟩ := pk_andE (xs (nI i).toNatClampNeg) (m := 63) 6 (by decide)
  rw [ej]
  have e1 : (nI j).toInt = (j : Int) := nI_toInt (by omega)
  by_cases z : j < 38
  · refine lv_tableIn (tgt := lwPcs.getD j 0) hx hb lw_sw (by rw [e1]; omega) (by rw [e1]; omega) (by rw [e1]; exact (show lwOffs[((j : Int) - 0).toNat]? = _ from by rw [show ((j : Int) - 0).toNat = j by omega]; exact lw_tab j z)) (by omega) ?_
    exact lc_at hi hL h nx j z p e s mi below meth c H locs ls b C0 hP hD hS hl
  · refine lv_tableOut (tgt := 1216) hx hb lw_sw (Or.inr (by rw [e1]; omega)) (by decide) ?_
    exact nx M h p e s mi below meth c H locs ls b C0 hP hD hS hl
theorem law_go (hL : L ≤ 2560) : ∀ (k i : Nat) (M : xM), Inv M → L < i + 5 * k → i < 5000 → Gl l E L xs 18 M i []
  | 0, i, M, _, h, hi => law_head hi hL (fun z => absurd z (by omega))
  | k + 1, i, M, hI, h, hi => law_head hi hL (fun z => law_turn z hL hI (fun M1 h1 => law_next hi (law_go hL k (i + 5) M1 h1 (by omega) (by omega))))
end L3
