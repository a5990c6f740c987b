/-! the law: its cases 5 .. 9 -/
set_option maxRecDepth 100000 in
theorem lc_5 {l : Launch} {E : xE} {L : Nat} {xs : Nat → Int32} {M : xM} {i : Nat} (hi : i + 5 ≤ L) (hL : L ≤ 2560) (h : Inv M) (nx : ∀ M1, Inv M1 → Gl l E L xs 1216 M1 i []) : Gl l E L xs 335 M i [] := by
  refine Gl_x (by decide +kernel) ?_
  refine Gl_arg (iz := 1) 1 (by decide +kernel) (by decide +kernel) (by decide +kernel) rfl (by decide +kernel) (by decide +kernel) hi (by omega) hL ?_
  refine Gl_arg (iz := 2) 2 (by decide +kernel) (by decide +kernel) (by decide +kernel) rfl (by decide +kernel) (by decide +kernel) hi (by omega) hL ?_
  refine Gl_call (idx := 36) (mc := mX3_block) (As := [.int (xs (i + 1)), .int (xs (i + 2))]) (rest := []) (q := 0) (by decide +kernel) (xTbl_in 586 (by decide +kernel) rfl) okX3_block mvX3_block rfl ⟨by decide, by decide⟩ (Nat.le_of_ble_eq_true rfl) rfl rfl rfl (tX3_block (k_block h)) (fun r3 M3 hr3 => ?_)
  obtain ⟨x, rfl, hq⟩ := hr3
  refine Gl_m (by decide +kernel) ?_
  refine Gl_arg (iz := 1) 1 (by decide +kernel) (by decide +kernel) (by decide +kernel) rfl (by decide +kernel) (by decide +kernel) hi (by omega) hL ?_
  refine Gl_arg (iz := 2) 2 (by decide +kernel) (by decide +kernel) (by decide +kernel) rfl (by decide +kernel) (by decide +kernel) hi (by omega) hL ?_
  refine Gl_call (idx := 39) (mc := mX4_block) (As := [.int (xs (i + 1)), .int (xs (i + 2))]) (rest := [.int x]) (q := 50) (by decide +kernel) (xTbl_in 1029 (by decide +kernel) rfl) okX4_block mvX4_block rfl ⟨by decide, by decide⟩ (Nat.le_of_ble_eq_true rfl) rfl rfl rfl (tX4_block hq) (fun r4 M4 hr4 => ?_)
  obtain ⟨y, rfl, he, hI⟩ := hr4
  exact Gl_cmp (off := 853) (by decide +kernel) (by decide) he (nx _ hI)
set_option maxRecDepth 100000 in
theorem lc_6 {l : Launch} {E : xE} {L : Nat} {xs : Nat → Int32} {M : xM} {i : Nat} (hi : i + 5 ≤ L) (hL : L ≤ 2560) (h : Inv M) (nx : ∀ M1, Inv M1 → Gl l E L xs 1216 M1 i []) : Gl l E L xs 368 M i [] := by
  refine Gl_x (by decide +kernel) ?_
  refine Gl_arg (iz := 1) 1 (by decide +kernel) (by decide +kernel) (by decide +kernel) rfl (by decide +kernel) (by decide +kernel) hi (by omega) hL ?_
  refine Gl_arg (iz := 2) 2 (by decide +kernel) (by decide +kernel) (by decide +kernel) rfl (by decide +kernel) (by decide +kernel) hi (by omega) hL ?_
  refine Gl_call (idx := 40) (mc := mX3_kind) (As := [.int (xs (i + 1)), .int (xs (i + 2))]) (rest := []) (q := 0) (by decide +kernel) (xTbl_in 594 (by decide +kernel) rfl) okX3_kind mvX3_kind rfl ⟨by decide, by decide⟩ (Nat.le_of_ble_eq_true rfl) rfl rfl rfl (tX3_kind (k_kind h)) (fun r3 M3 hr3 => ?_)
  obtain ⟨x, rfl, hq⟩ := hr3
  refine Gl_m (by decide +kernel) ?_
  refine Gl_arg (iz := 1) 1 (by decide +kernel) (by decide +kernel) (by decide +kernel) rfl (by decide +kernel) (by decide +kernel) hi (by omega) hL ?_
  refine Gl_arg (iz := 2) 2 (by decide +kernel) (by decide +kernel) (by decide +kernel) rfl (by decide +kernel) (by decide +kernel) hi (by omega) hL ?_
  refine Gl_call (idx := 43) (mc := mX4_kind) (As := [.int (xs (i + 1)), .int (xs (i + 2))]) (rest := [.int x]) (q := 50) (by decide +kernel) (xTbl_in 1036 (by decide +kernel) rfl) okX4_kind mvX4_kind rfl ⟨by decide, by decide⟩ (Nat.le_of_ble_eq_true rfl) rfl rfl rfl (tX4_kind hq) (fun r4 M4 hr4 => ?_)
  obtain ⟨y, rfl, he, hI⟩ := hr4
  exact Gl_cmp (off := 820) (by decide +kernel) (by decide) he (nx _ hI)
set_option maxRecDepth 100000 in
theorem lc_7 {l : Launch} {E : xE} {L : Nat} {xs : Nat → Int32} {M : xM} {i : Nat} (hi : i + 5 ≤ L) (hL : L ≤ 2560) (h : Inv M) (nx : ∀ M1, Inv M1 → Gl l E L xs 1216 M1 i []) : Gl l E L xs 401 M i [] := by
  refine Gl_x (by decide +kernel) ?_
  refine Gl_arg (iz := 1) 1 (by decide +kernel) (by decide +kernel) (by decide +kernel) rfl (by decide +kernel) (by decide +kernel) hi (by omega) hL ?_
  refine Gl_arg (iz := 2) 2 (by decide +kernel) (by decide +kernel) (by decide +kernel) rfl (by decide +kernel) (by decide +kernel) hi (by omega) hL ?_
  refine Gl_arg (iz := 3) 3 (by decide +kernel) (by decide +kernel) (by decide +kernel) rfl (by decide +kernel) (by decide +kernel) hi (by omega) hL ?_
  refine Gl_call (idx := 44) (mc := mX3_points) (As := [.int (xs (i + 1)), .int (xs (i + 2)), .int (xs (i + 3))]) (rest := []) (q := 0) (by decide +kernel) (xTbl_in 598 (by decide +kernel) rfl) okX3_points mvX3_points rfl ⟨by decide, by decide⟩ (Nat.le_of_ble_eq_true rfl) rfl rfl rfl (tX3_points (k_points h)) (fun r3 M3 hr3 => ?_)
  obtain ⟨x, rfl, hq⟩ := hr3
  refine Gl_m (by decide +kernel) ?_
  refine Gl_arg (iz := 1) 1 (by decide +kernel) (by decide +kernel) (by decide +kernel) rfl (by decide +kernel) (by decide +kernel) hi (by omega) hL ?_
  refine Gl_arg (iz := 2) 2 (by decide +kernel) (by decide +kernel) (by decide +kernel) rfl (by decide +kernel) (by decide +kernel) hi (by omega) hL ?_
  refine Gl_arg (iz := 3) 3 (by decide +kernel) (by decide +kernel) (by decide +kernel) rfl (by decide +kernel) (by decide +kernel) hi (by omega) hL ?_
  refine Gl_call (idx := 48) (mc := mX4_points) (As := [.int (xs (i + 1)), .int (xs (i + 2)), .int (xs (i + 3))]) (rest := [.int x]) (q := 50) (by decide +kernel) (xTbl_in 1040 (by decide +kernel) rfl) okX4_points mvX4_points rfl ⟨by decide, by decide⟩ (Nat.le_of_ble_eq_true rfl) rfl rfl rfl (tX4_points hq) (fun r4 M4 hr4 => ?_)
  obtain ⟨y, rfl, he, hI⟩ := hr4
  exact Gl_cmp (off := 777) (by decide +kernel) (by decide) he (nx _ hI)
set_option maxRecDepth 100000 in
theorem lc_8 {l : Launch} {E : xE} {L : Nat} {xs : Nat → Int32} {M : xM} {i : Nat} (hi : i + 5 ≤ L) (hL : L ≤ 2560) (h : Inv M) (nx : ∀ M1, Inv M1 → Gl l E L xs 1216 M1 i []) : Gl l E L xs 444 M i [] := by
  refine Gl_x (by decide +kernel) ?_
  refine Gl_arg (iz := 1) 1 (by decide +kernel) (by decide +kernel) (by decide +kernel) rfl (by decide +kernel) (by decide +kernel) hi (by omega) hL ?_
  refine Gl_arg (iz := 2) 2 (by decide +kernel) (by decide +kernel) (by decide +kernel) rfl (by decide +kernel) (by decide +kernel) hi (by omega) hL ?_
  refine Gl_arg (iz := 3) 3 (by decide +kernel) (by decide +kernel) (by decide +kernel) rfl (by decide +kernel) (by decide +kernel) hi (by omega) hL ?_
  refine Gl_arg (iz := 4) 4 (by decide +kernel) (by decide +kernel) (by decide +kernel) rfl (by decide +kernel) (by decide +kernel) hi (by omega) hL ?_
  refine Gl_call (idx := 49) (mc := mX3_enters) (As := [.int (xs (i + 1)), .int (xs (i + 2)), .int (xs (i + 3)), .int (xs (i + 4))]) (rest := []) (q := 0) (by decide +kernel) (xTbl_in 602 (by decide +kernel) rfl) okX3_enters mvX3_enters rfl ⟨by decide, by decide⟩ (Nat.le_of_ble_eq_true rfl) rfl rfl rfl (tX3_enters (k_enters h)) (fun r3 M3 hr3 => ?_)
  obtain ⟨x, rfl, hq⟩ := hr3
  refine Gl_m (by decide +kernel) ?_
  refine Gl_arg (iz := 1) 1 (by decide +kernel) (by decide +kernel) (by decide +kernel) rfl (by decide +kernel) (by decide +kernel) hi (by omega) hL ?_
  refine Gl_arg (iz := 2) 2 (by decide +kernel) (by decide +kernel) (by decide +kernel) rfl (by decide +kernel) (by decide +kernel) hi (by omega) hL ?_
  refine Gl_arg (iz := 3) 3 (by decide +kernel) (by decide +kernel) (by decide +kernel) rfl (by decide +kernel) (by decide +kernel) hi (by omega) hL ?_
  refine Gl_arg (iz := 4) 4 (by decide +kernel) (by decide +kernel) (by decide +kernel) rfl (by decide +kernel) (by decide +kernel) hi (by omega) hL ?_
  refine Gl_call (idx := 53) (mc := mX4_enters) (As := [.int (xs (i + 1)), .int (xs (i + 2)), .int (xs (i + 3)), .int (xs (i + 4))]) (rest := [.int x]) (q := 50) (by decide +kernel) (xTbl_in 1044 (by decide +kernel) rfl) okX4_enters mvX4_enters rfl ⟨by decide, by decide⟩ (Nat.le_of_ble_eq_true rfl) rfl rfl rfl (tX4_enters hq) (fun r4 M4 hr4 => ?_)
  obtain ⟨y, rfl, he, hI⟩ := hr4
  exact Gl_cmp (off := 724) (by decide +kernel) (by decide) he (nx _ hI)
set_option maxRecDepth 100000 in
theorem lc_9 {l : Launch} {E : xE} {L : Nat} {xs : Nat → Int32} {M : xM} {i : Nat} (hi : i + 5 ≤ L) (hL : L ≤ 2560) (h : Inv M) (nx : ∀ M1, Inv M1 → Gl l E L xs 1216 M1 i []) : Gl l E L xs 497 M i [] := by
  refine Gl_x (by decide +kernel) ?_
  refine Gl_arg (iz := 1) 1 (by decide +kernel) (by decide +kernel) (by decide +kernel) rfl (by decide +kernel) (by decide +kernel) hi (by omega) hL ?_
  refine Gl_arg (iz := 2) 2 (by decide +kernel) (by decide +kernel) (by decide +kernel) rfl (by decide +kernel) (by decide +kernel) hi (by omega) hL ?_
  refine Gl_call (idx := 54) (mc := mX3_empties) (As := [.int (xs (i + 1)), .int (xs (i + 2))]) (rest := []) (q := 0) (by decide +kernel) (xTbl_in 606 (by decide +kernel) rfl) okX3_empties mvX3_empties rfl ⟨by decide, by decide⟩ (Nat.le_of_ble_eq_true rfl) rfl rfl rfl (tX3_empties (k_empties h)) (fun r3 M3 hr3 => ?_)
  obtain ⟨x, rfl, hq⟩ := hr3
  refine Gl_m (by decide +kernel) ?_
  refine Gl_arg (iz := 1) 1 (by decide +kernel) (by decide +kernel) (by decide +kernel) rfl (by decide +kernel) (by decide +kernel) hi (by omega) hL ?_
  refine Gl_arg (iz := 2) 2 (by decide +kernel) (by decide +kernel) (by decide +kernel) rfl (by decide +kernel) (by decide +kernel) hi (by omega) hL ?_
  refine Gl_call (idx := 57) (mc := mX4_empties) (As := [.int (xs (i + 1)), .int (xs (i + 2))]) (rest := [.int x]) (q := 50) (by decide +kernel) (xTbl_in 1048 (by decide +kernel) rfl) okX4_empties mvX4_empties rfl ⟨by decide, by decide⟩ (Nat.le_of_ble_eq_true rfl) rfl rfl rfl (tX4_empties hq) (fun r4 M4 hr4 => ?_)
  obtain ⟨y, rfl, he, hI⟩ := hr4
  exact Gl_cmp (off := 691) (by decide +kernel) (by decide) he (nx _ hI)
