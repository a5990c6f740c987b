/-! the law: its cases 25 .. 29 -/
set_option maxRecDepth 100000 in
theorem lc_25 {l : Launch} {E : xE} {L : Nat} {xs : Nat → Int32} {M : xM} {i : Nat} (hi : i + 5 ≤ L) (hL : L ≤ 2560) (h : Inv M) (nx : ∀ M1, Inv M1 → Gl l E L xs 1216 M1 i []) : Gl l E L xs 915 M i [] := by
  refine Gl_x (by decide +kernel) ?_
  refine Gl_arg (iz := 1) 1 (by decide +kernel) (by decide +kernel) (by decide +kernel) rfl (by decide +kernel) (by decide +kernel) hi (by omega) hL ?_
  refine Gl_call (idx := 118) (mc := mX3_mend) (As := [.int (xs (i + 1))]) (rest := []) (q := 0) (by decide +kernel) (xTbl_in 711 (by decide +kernel) rfl) okX3_mend mvX3_mend rfl ⟨by decide, by decide⟩ (Nat.le_of_ble_eq_true rfl) rfl rfl rfl (tX3_mend (k_mend h)) (fun r3 M3 hr3 => ?_)
  obtain ⟨x, rfl, hq⟩ := hr3
  refine Gl_m (by decide +kernel) ?_
  refine Gl_arg (iz := 1) 1 (by decide +kernel) (by decide +kernel) (by decide +kernel) rfl (by decide +kernel) (by decide +kernel) hi (by omega) hL ?_
  refine Gl_call (idx := 121) (mc := mX4_mend) (As := [.int (xs (i + 1))]) (rest := [.int x]) (q := 50) (by decide +kernel) (xTbl_in 1151 (by decide +kernel) rfl) okX4_mend mvX4_mend rfl ⟨by decide, by decide⟩ (Nat.le_of_ble_eq_true rfl) rfl rfl rfl (tX4_mend hq) (fun r4 M4 hr4 => ?_)
  obtain ⟨y, rfl, he, hI⟩ := hr4
  exact Gl_cmp (off := 283) (by decide +kernel) (by decide) he (nx _ hI)
set_option maxRecDepth 100000 in
theorem lc_26 {l : Launch} {E : xE} {L : Nat} {xs : Nat → Int32} {M : xM} {i : Nat} (hi : i + 5 ≤ L) (hL : L ≤ 2560) (h : Inv M) (nx : ∀ M1, Inv M1 → Gl l E L xs 1216 M1 i []) : Gl l E L xs 938 M i [] := by
  refine Gl_x (by decide +kernel) ?_
  refine Gl_call (idx := 122) (mc := mX3_worst) (As := []) (rest := []) (q := 0) (by decide +kernel) (xTbl_in 716 (by decide +kernel) rfl) okX3_worst mvX3_worst rfl ⟨by decide, by decide⟩ (Nat.le_of_ble_eq_true rfl) rfl rfl rfl (tX3_worst (k_worst h)) (fun r3 M3 hr3 => ?_)
  obtain ⟨x, rfl, hq⟩ := hr3
  refine Gl_m (by decide +kernel) ?_
  refine Gl_call (idx := 125) (mc := mX4_worst) (As := []) (rest := [.int x]) (q := 50) (by decide +kernel) (xTbl_in 1155 (by decide +kernel) rfl) okX4_worst mvX4_worst rfl ⟨by decide, by decide⟩ (Nat.le_of_ble_eq_true rfl) rfl rfl rfl (tX4_worst hq) (fun r4 M4 hr4 => ?_)
  obtain ⟨y, rfl, he, hI⟩ := hr4
  exact Gl_cmp (off := 270) (by decide +kernel) (by decide) he (nx _ hI)
set_option maxRecDepth 100000 in
theorem lc_27 {l : Launch} {E : xE} {L : Nat} {xs : Nat → Int32} {M : xM} {i : Nat} (hi : i + 5 ≤ L) (hL : L ≤ 2560) (h : Inv M) (nx : ∀ M1, Inv M1 → Gl l E L xs 1216 M1 i []) : Gl l E L xs 951 M i [] := by
  refine Gl_x (by decide +kernel) ?_
  refine Gl_arg (iz := 1) 1 (by decide +kernel) (by decide +kernel) (by decide +kernel) rfl (by decide +kernel) (by decide +kernel) hi (by omega) hL ?_
  refine Gl_call (idx := 126) (mc := mX3_shared) (As := [.int (xs (i + 1))]) (rest := []) (q := 0) (by decide +kernel) (xTbl_in 720 (by decide +kernel) rfl) okX3_shared mvX3_shared rfl ⟨by decide, by decide⟩ (Nat.le_of_ble_eq_true rfl) rfl rfl rfl (tX3_shared (k_shared h)) (fun r3 M3 hr3 => ?_)
  obtain ⟨x, rfl, hq⟩ := hr3
  refine Gl_m (by decide +kernel) ?_
  refine Gl_arg (iz := 1) 1 (by decide +kernel) (by decide +kernel) (by decide +kernel) rfl (by decide +kernel) (by decide +kernel) hi (by omega) hL ?_
  refine Gl_call (idx := 129) (mc := mX4_shared) (As := [.int (xs (i + 1))]) (rest := [.int x]) (q := 50) (by decide +kernel) (xTbl_in 1159 (by decide +kernel) rfl) okX4_shared mvX4_shared rfl ⟨by decide, by decide⟩ (Nat.le_of_ble_eq_true rfl) rfl rfl rfl (tX4_shared hq) (fun r4 M4 hr4 => ?_)
  obtain ⟨y, rfl, he, hI⟩ := hr4
  exact Gl_cmp (off := 247) (by decide +kernel) (by decide) he (nx _ hI)
set_option maxRecDepth 100000 in
theorem lc_28 {l : Launch} {E : xE} {L : Nat} {xs : Nat → Int32} {M : xM} {i : Nat} (hi : i + 5 ≤ L) (hL : L ≤ 2560) (h : Inv M) (nx : ∀ M1, Inv M1 → Gl l E L xs 1216 M1 i []) : Gl l E L xs 974 M i [] := by
  refine Gl_x (by decide +kernel) ?_
  refine Gl_arg (iz := 1) 1 (by decide +kernel) (by decide +kernel) (by decide +kernel) rfl (by decide +kernel) (by decide +kernel) hi (by omega) hL ?_
  refine Gl_arg (iz := 2) 2 (by decide +kernel) (by decide +kernel) (by decide +kernel) rfl (by decide +kernel) (by decide +kernel) hi (by omega) hL ?_
  refine Gl_arg (iz := 3) 3 (by decide +kernel) (by decide +kernel) (by decide +kernel) rfl (by decide +kernel) (by decide +kernel) hi (by omega) hL ?_
  refine Gl_call (idx := 130) (mc := mX3_damage) (As := [.int (xs (i + 1)), .int (xs (i + 2)), .int (xs (i + 3))]) (rest := []) (q := 0) (by decide +kernel) (xTbl_in 729 (by decide +kernel) rfl) okX3_damage mvX3_damage rfl ⟨by decide, by decide⟩ (Nat.le_of_ble_eq_true rfl) rfl rfl rfl (tX3_damage (k_damage h)) (fun r3 M3 hr3 => ?_)
  obtain ⟨x, rfl, hq⟩ := hr3
  refine Gl_m (by decide +kernel) ?_
  refine Gl_arg (iz := 1) 1 (by decide +kernel) (by decide +kernel) (by decide +kernel) rfl (by decide +kernel) (by decide +kernel) hi (by omega) hL ?_
  refine Gl_arg (iz := 2) 2 (by decide +kernel) (by decide +kernel) (by decide +kernel) rfl (by decide +kernel) (by decide +kernel) hi (by omega) hL ?_
  refine Gl_arg (iz := 3) 3 (by decide +kernel) (by decide +kernel) (by decide +kernel) rfl (by decide +kernel) (by decide +kernel) hi (by omega) hL ?_
  refine Gl_call (idx := 134) (mc := mX4_damage) (As := [.int (xs (i + 1)), .int (xs (i + 2)), .int (xs (i + 3))]) (rest := [.long x]) (q := 50) (by decide +kernel) (xTbl_in 1163 (by decide +kernel) rfl) okX4_damage mvX4_damage rfl ⟨by decide, by decide⟩ (Nat.le_of_ble_eq_true rfl) rfl rfl rfl (tX4_damage hq) (fun r4 M4 hr4 => ?_)
  obtain ⟨y, rfl, he, hI⟩ := hr4
  exact Gl_lcmp (off := 203) (by decide +kernel) (by decide +kernel) (by decide) he (nx _ hI)
set_option maxRecDepth 100000 in
theorem lc_29 {l : Launch} {E : xE} {L : Nat} {xs : Nat → Int32} {M : xM} {i : Nat} (hi : i + 5 ≤ L) (hL : L ≤ 2560) (h : Inv M) (nx : ∀ M1, Inv M1 → Gl l E L xs 1216 M1 i []) : Gl l E L xs 1018 M i [] := by
  refine Gl_x (by decide +kernel) ?_
  refine Gl_arg (iz := 1) 1 (by decide +kernel) (by decide +kernel) (by decide +kernel) rfl (by decide +kernel) (by decide +kernel) hi (by omega) hL ?_
  refine Gl_call (idx := 135) (mc := mX3_mean) (As := [.int (xs (i + 1))]) (rest := []) (q := 0) (by decide +kernel) (xTbl_in 747 (by decide +kernel) rfl) okX3_mean mvX3_mean rfl ⟨by decide, by decide⟩ (Nat.le_of_ble_eq_true rfl) rfl rfl rfl (tX3_mean (k_mean h)) (fun r3 M3 hr3 => ?_)
  obtain ⟨x, rfl, hq⟩ := hr3
  refine Gl_m (by decide +kernel) ?_
  refine Gl_arg (iz := 1) 1 (by decide +kernel) (by decide +kernel) (by decide +kernel) rfl (by decide +kernel) (by decide +kernel) hi (by omega) hL ?_
  refine Gl_call (idx := 139) (mc := mX4_mean) (As := [.int (xs (i + 1))]) (rest := [.long x]) (q := 50) (by decide +kernel) (xTbl_in 1179 (by decide +kernel) rfl) okX4_mean mvX4_mean rfl ⟨by decide, by decide⟩ (Nat.le_of_ble_eq_true rfl) rfl rfl rfl (tX4_mean hq) (fun r4 M4 hr4 => ?_)
  obtain ⟨y, rfl, he, hI⟩ := hr4
  exact Gl_lcmp (off := 179) (by decide +kernel) (by decide +kernel) (by decide) he (nx _ hI)
