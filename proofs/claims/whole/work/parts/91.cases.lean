/-! the law: its cases 30 .. 34 -/
set_option maxRecDepth 100000 in
theorem lc_30 {l : Launch} {E : xE} {L : Nat} {xs : Nat → Int32} {M : xM} {i : Nat} (hi : i + 5 ≤ L) (hL : L ≤ 2560) (h : Inv M) (nx : ∀ M1, Inv M1 → Gl l E L xs 1216 M1 i []) : Gl l E L xs 1042 M i [] := by
  refine Gl_x (by decide +kernel) ?_
  refine Gl_arg (iz := 1) 1 (by decide +kernel) (by decide +kernel) (by decide +kernel) rfl (by decide +kernel) (by decide +kernel) hi (by omega) hL ?_
  refine Gl_arg (iz := 2) 2 (by decide +kernel) (by decide +kernel) (by decide +kernel) rfl (by decide +kernel) (by decide +kernel) hi (by omega) hL ?_
  refine Gl_call (idx := 140) (mc := mX3_whatIs) (As := [.int (xs (i + 1)), .int (xs (i + 2))]) (rest := []) (q := 0) (by decide +kernel) (xTbl_in 751 (by decide +kernel) rfl) okX3_whatIs mvX3_whatIs rfl ⟨by decide, by decide⟩ (Nat.le_of_ble_eq_true rfl) rfl rfl rfl (tX3_whatIs (k_whatIs h)) (fun r3 M3 hr3 => ?_)
  obtain ⟨x, rfl, hq⟩ := hr3
  refine Gl_m (by decide +kernel) ?_
  refine Gl_arg (iz := 1) 1 (by decide +kernel) (by decide +kernel) (by decide +kernel) rfl (by decide +kernel) (by decide +kernel) hi (by omega) hL ?_
  refine Gl_arg (iz := 2) 2 (by decide +kernel) (by decide +kernel) (by decide +kernel) rfl (by decide +kernel) (by decide +kernel) hi (by omega) hL ?_
  refine Gl_call (idx := 143) (mc := mX4_whatIs) (As := [.int (xs (i + 1)), .int (xs (i + 2))]) (rest := [.int x]) (q := 50) (by decide +kernel) (xTbl_in 1183 (by decide +kernel) rfl) okX4_whatIs mvX4_whatIs rfl ⟨by decide, by decide⟩ (Nat.le_of_ble_eq_true rfl) rfl rfl rfl (tX4_whatIs hq) (fun r4 M4 hr4 => ?_)
  obtain ⟨y, rfl, he, hI⟩ := hr4
  exact Gl_cmp (off := 146) (by decide +kernel) (by decide) he (nx _ hI)
set_option maxRecDepth 100000 in
theorem lc_31 {l : Launch} {E : xE} {L : Nat} {xs : Nat → Int32} {M : xM} {i : Nat} (hi : i + 5 ≤ L) (hL : L ≤ 2560) (h : Inv M) (nx : ∀ M1, Inv M1 → Gl l E L xs 1216 M1 i []) : Gl l E L xs 1075 M i [] := by
  refine Gl_x (by decide +kernel) ?_
  refine Gl_arg (iz := 1) 1 (by decide +kernel) (by decide +kernel) (by decide +kernel) rfl (by decide +kernel) (by decide +kernel) hi (by omega) hL ?_
  refine Gl_call (idx := 144) (mc := mX3_row) (As := [.int (xs (i + 1))]) (rest := []) (q := 0) (by decide +kernel) (xTbl_in 759 (by decide +kernel) rfl) okX3_row mvX3_row rfl ⟨by decide, by decide⟩ (Nat.le_of_ble_eq_true rfl) rfl rfl rfl (tX3_row (k_row h)) (fun r3 M3 hr3 => ?_)
  obtain ⟨x, rfl, hq⟩ := hr3
  refine Gl_m (by decide +kernel) ?_
  refine Gl_arg (iz := 1) 1 (by decide +kernel) (by decide +kernel) (by decide +kernel) rfl (by decide +kernel) (by decide +kernel) hi (by omega) hL ?_
  refine Gl_call (idx := 147) (mc := mX4_row) (As := [.int (xs (i + 1))]) (rest := [.int x]) (q := 50) (by decide +kernel) (xTbl_in 1191 (by decide +kernel) rfl) okX4_row mvX4_row rfl ⟨by decide, by decide⟩ (Nat.le_of_ble_eq_true rfl) rfl rfl rfl (tX4_row hq) (fun r4 M4 hr4 => ?_)
  obtain ⟨y, rfl, he, hI⟩ := hr4
  exact Gl_cmp (off := 123) (by decide +kernel) (by decide) he (nx _ hI)
set_option maxRecDepth 100000 in
theorem lc_32 {l : Launch} {E : xE} {L : Nat} {xs : Nat → Int32} {M : xM} {i : Nat} (hi : i + 5 ≤ L) (hL : L ≤ 2560) (h : Inv M) (nx : ∀ M1, Inv M1 → Gl l E L xs 1216 M1 i []) : Gl l E L xs 1098 M i [] := by
  refine Gl_x (by decide +kernel) ?_
  refine Gl_call (idx := 148) (mc := mX3_judge) (As := []) (rest := []) (q := 0) (by decide +kernel) (xTbl_in 763 (by decide +kernel) rfl) okX3_judge mvX3_judge rfl ⟨by decide, by decide⟩ (Nat.le_of_ble_eq_true rfl) rfl rfl rfl (tX3_judge (k_judge h)) (fun r3 M3 hr3 => ?_)
  obtain ⟨x, rfl, hq⟩ := hr3
  refine Gl_m (by decide +kernel) ?_
  refine Gl_call (idx := 151) (mc := mX4_judge) (As := []) (rest := [.int x]) (q := 50) (by decide +kernel) (xTbl_in 1195 (by decide +kernel) rfl) okX4_judge mvX4_judge rfl ⟨by decide, by decide⟩ (Nat.le_of_ble_eq_true rfl) rfl rfl rfl (tX4_judge hq) (fun r4 M4 hr4 => ?_)
  obtain ⟨y, rfl, he, hI⟩ := hr4
  exact Gl_cmp (off := 110) (by decide +kernel) (by decide) he (nx _ hI)
set_option maxRecDepth 100000 in
theorem lc_33 {l : Launch} {E : xE} {L : Nat} {xs : Nat → Int32} {M : xM} {i : Nat} (hi : i + 5 ≤ L) (hL : L ≤ 2560) (h : Inv M) (nx : ∀ M1, Inv M1 → Gl l E L xs 1216 M1 i []) : Gl l E L xs 1111 M i [] := by
  refine Gl_x (by decide +kernel) ?_
  refine Gl_call (idx := 152) (mc := mX3_clear) (As := []) (rest := []) (q := 0) (by decide +kernel) (xTbl_in 767 (by decide +kernel) rfl) okX3_clear mvX3_clear rfl ⟨by decide, by decide⟩ (Nat.le_of_ble_eq_true rfl) rfl rfl rfl (tX3_clear (k_clear h)) (fun r3 M3 hr3 => ?_)
  obtain ⟨x, rfl, hq⟩ := hr3
  refine Gl_m (by decide +kernel) ?_
  refine Gl_call (idx := 155) (mc := mX4_clear) (As := []) (rest := [.int x]) (q := 50) (by decide +kernel) (xTbl_in 1199 (by decide +kernel) rfl) okX4_clear mvX4_clear rfl ⟨by decide, by decide⟩ (Nat.le_of_ble_eq_true rfl) rfl rfl rfl (tX4_clear hq) (fun r4 M4 hr4 => ?_)
  obtain ⟨y, rfl, he, hI⟩ := hr4
  exact Gl_cmp (off := 97) (by decide +kernel) (by decide) he (nx _ hI)
set_option maxRecDepth 100000 in
theorem lc_34 {l : Launch} {E : xE} {L : Nat} {xs : Nat → Int32} {M : xM} {i : Nat} (hi : i + 5 ≤ L) (hL : L ≤ 2560) (h : Inv M) (nx : ∀ M1, Inv M1 → Gl l E L xs 1216 M1 i []) : Gl l E L xs 1124 M i [] := by
  refine Gl_x (by decide +kernel) ?_
  refine Gl_arg (iz := 1) 1 (by decide +kernel) (by decide +kernel) (by decide +kernel) rfl (by decide +kernel) (by decide +kernel) hi (by omega) hL ?_
  refine Gl_arg (iz := 2) 2 (by decide +kernel) (by decide +kernel) (by decide +kernel) rfl (by decide +kernel) (by decide +kernel) hi (by omega) hL ?_
  refine Gl_arg (iz := 3) 3 (by decide +kernel) (by decide +kernel) (by decide +kernel) rfl (by decide +kernel) (by decide +kernel) hi (by omega) hL ?_
  refine Gl_call (idx := 156) (mc := mX3_lots) (As := [.int (xs (i + 1)), .int (xs (i + 2)), .int (xs (i + 3))]) (rest := []) (q := 0) (by decide +kernel) (xTbl_in 771 (by decide +kernel) rfl) okX3_lots mvX3_lots rfl ⟨by decide, by decide⟩ (Nat.le_of_ble_eq_true rfl) rfl rfl rfl (tX3_lots (k_lots h)) (fun r3 M3 hr3 => ?_)
  obtain ⟨x, rfl, hq⟩ := hr3
  refine Gl_m (by decide +kernel) ?_
  refine Gl_arg (iz := 1) 1 (by decide +kernel) (by decide +kernel) (by decide +kernel) rfl (by decide +kernel) (by decide +kernel) hi (by omega) hL ?_
  refine Gl_arg (iz := 2) 2 (by decide +kernel) (by decide +kernel) (by decide +kernel) rfl (by decide +kernel) (by decide +kernel) hi (by omega) hL ?_
  refine Gl_arg (iz := 3) 3 (by decide +kernel) (by decide +kernel) (by decide +kernel) rfl (by decide +kernel) (by decide +kernel) hi (by omega) hL ?_
  refine Gl_call (idx := 159) (mc := mX4_lots) (As := [.int (xs (i + 1)), .int (xs (i + 2)), .int (xs (i + 3))]) (rest := [.int x]) (q := 50) (by decide +kernel) (xTbl_in 1203 (by decide +kernel) rfl) okX4_lots mvX4_lots rfl ⟨by decide, by decide⟩ (Nat.le_of_ble_eq_true rfl) rfl rfl rfl (tX4_lots hq) (fun r4 M4 hr4 => ?_)
  obtain ⟨y, rfl, he, hI⟩ := hr4
  exact Gl_cmp (off := 54) (by decide +kernel) (by decide) he (nx _ hI)
