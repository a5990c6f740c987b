/-! the law: its cases 10 .. 14 -/
set_option maxRecDepth 100000 in
theorem lc_10 {l : Launch} {E : xE} {L : Nat} {xs : Nat → Int32} {M : xM} {i : Nat} (hi : i + 5 ≤ L) (hL : L ≤ 2560) (h : Inv M) (nx : ∀ M1, Inv M1 → Gl l E L xs 1216 M1 i []) : Gl l E L xs 530 M i [] := by
  refine Gl_x (by decide +kernel) ?_
  refine Gl_arg (iz := 1) 1 (by decide +kernel) (by decide +kernel) (by decide +kernel) rfl (by decide +kernel) (by decide +kernel) hi (by omega) hL ?_
  refine Gl_arg (iz := 2) 2 (by decide +kernel) (by decide +kernel) (by decide +kernel) rfl (by decide +kernel) (by decide +kernel) hi (by omega) hL ?_
  refine Gl_arg (iz := 3) 3 (by decide +kernel) (by decide +kernel) (by decide +kernel) rfl (by decide +kernel) (by decide +kernel) hi (by omega) hL ?_
  refine Gl_call (idx := 58) (mc := mX3_links) (As := [.int (xs (i + 1)), .int (xs (i + 2)), .int (xs (i + 3))]) (rest := []) (q := 0) (by decide +kernel) (xTbl_in 610 (by decide +kernel) rfl) okX3_links mvX3_links rfl ⟨by decide, by decide⟩ (Nat.le_of_ble_eq_true rfl) rfl rfl rfl (tX3_links (k_links h)) (fun r3 M3 hr3 => ?_)
  obtain ⟨x, rfl, hq⟩ := hr3
  refine Gl_m (by decide +kernel) ?_
  refine Gl_arg (iz := 1) 1 (by decide +kernel) (by decide +kernel) (by decide +kernel) rfl (by decide +kernel) (by decide +kernel) hi (by omega) hL ?_
  refine Gl_arg (iz := 2) 2 (by decide +kernel) (by decide +kernel) (by decide +kernel) rfl (by decide +kernel) (by decide +kernel) hi (by omega) hL ?_
  refine Gl_arg (iz := 3) 3 (by decide +kernel) (by decide +kernel) (by decide +kernel) rfl (by decide +kernel) (by decide +kernel) hi (by omega) hL ?_
  refine Gl_call (idx := 61) (mc := mX4_links) (As := [.int (xs (i + 1)), .int (xs (i + 2)), .int (xs (i + 3))]) (rest := [.int x]) (q := 50) (by decide +kernel) (xTbl_in 1052 (by decide +kernel) rfl) okX4_links mvX4_links rfl ⟨by decide, by decide⟩ (Nat.le_of_ble_eq_true rfl) rfl rfl rfl (tX4_links hq) (fun r4 M4 hr4 => ?_)
  obtain ⟨y, rfl, he, hI⟩ := hr4
  exact Gl_cmp (off := 648) (by decide +kernel) (by decide) he (nx _ hI)
set_option maxRecDepth 100000 in
theorem lc_11 {l : Launch} {E : xE} {L : Nat} {xs : Nat → Int32} {M : xM} {i : Nat} (hi : i + 5 ≤ L) (hL : L ≤ 2560) (h : Inv M) (nx : ∀ M1, Inv M1 → Gl l E L xs 1216 M1 i []) : Gl l E L xs 573 M i [] := by
  refine Gl_x (by decide +kernel) ?_
  refine Gl_arg (iz := 1) 1 (by decide +kernel) (by decide +kernel) (by decide +kernel) rfl (by decide +kernel) (by decide +kernel) hi (by omega) hL ?_
  refine Gl_arg (iz := 2) 2 (by decide +kernel) (by decide +kernel) (by decide +kernel) rfl (by decide +kernel) (by decide +kernel) hi (by omega) hL ?_
  refine Gl_call (idx := 62) (mc := mX3_marks) (As := [.int (xs (i + 1)), .int (xs (i + 2))]) (rest := []) (q := 0) (by decide +kernel) (xTbl_in 614 (by decide +kernel) rfl) okX3_marks mvX3_marks rfl ⟨by decide, by decide⟩ (Nat.le_of_ble_eq_true rfl) rfl rfl rfl (tX3_marks (k_marks h)) (fun r3 M3 hr3 => ?_)
  obtain ⟨x, rfl, hq⟩ := hr3
  refine Gl_m (by decide +kernel) ?_
  refine Gl_arg (iz := 1) 1 (by decide +kernel) (by decide +kernel) (by decide +kernel) rfl (by decide +kernel) (by decide +kernel) hi (by omega) hL ?_
  refine Gl_arg (iz := 2) 2 (by decide +kernel) (by decide +kernel) (by decide +kernel) rfl (by decide +kernel) (by decide +kernel) hi (by omega) hL ?_
  refine Gl_call (idx := 65) (mc := mX4_marks) (As := [.int (xs (i + 1)), .int (xs (i + 2))]) (rest := [.int x]) (q := 50) (by decide +kernel) (xTbl_in 1056 (by decide +kernel) rfl) okX4_marks mvX4_marks rfl ⟨by decide, by decide⟩ (Nat.le_of_ble_eq_true rfl) rfl rfl rfl (tX4_marks hq) (fun r4 M4 hr4 => ?_)
  obtain ⟨y, rfl, he, hI⟩ := hr4
  exact Gl_cmp (off := 615) (by decide +kernel) (by decide) he (nx _ hI)
set_option maxRecDepth 100000 in
theorem lc_12 {l : Launch} {E : xE} {L : Nat} {xs : Nat → Int32} {M : xM} {i : Nat} (hi : i + 5 ≤ L) (hL : L ≤ 2560) (h : Inv M) (nx : ∀ M1, Inv M1 → Gl l E L xs 1216 M1 i []) : Gl l E L xs 606 M i [] := by
  refine Gl_x (by decide +kernel) ?_
  refine Gl_arg (iz := 1) 1 (by decide +kernel) (by decide +kernel) (by decide +kernel) rfl (by decide +kernel) (by decide +kernel) hi (by omega) hL ?_
  refine Gl_arg (iz := 2) 2 (by decide +kernel) (by decide +kernel) (by decide +kernel) rfl (by decide +kernel) (by decide +kernel) hi (by omega) hL ?_
  refine Gl_call (idx := 66) (mc := mX3_writes) (As := [.int (xs (i + 1)), .int (xs (i + 2))]) (rest := []) (q := 0) (by decide +kernel) (xTbl_in 618 (by decide +kernel) rfl) okX3_writes mvX3_writes rfl ⟨by decide, by decide⟩ (Nat.le_of_ble_eq_true rfl) rfl rfl rfl (tX3_writes (k_writes h)) (fun r3 M3 hr3 => ?_)
  obtain ⟨x, rfl, hq⟩ := hr3
  refine Gl_m (by decide +kernel) ?_
  refine Gl_arg (iz := 1) 1 (by decide +kernel) (by decide +kernel) (by decide +kernel) rfl (by decide +kernel) (by decide +kernel) hi (by omega) hL ?_
  refine Gl_arg (iz := 2) 2 (by decide +kernel) (by decide +kernel) (by decide +kernel) rfl (by decide +kernel) (by decide +kernel) hi (by omega) hL ?_
  refine Gl_call (idx := 69) (mc := mX4_writes) (As := [.int (xs (i + 1)), .int (xs (i + 2))]) (rest := [.int x]) (q := 50) (by decide +kernel) (xTbl_in 1060 (by decide +kernel) rfl) okX4_writes mvX4_writes rfl ⟨by decide, by decide⟩ (Nat.le_of_ble_eq_true rfl) rfl rfl rfl (tX4_writes hq) (fun r4 M4 hr4 => ?_)
  obtain ⟨y, rfl, he, hI⟩ := hr4
  exact Gl_cmp (off := 582) (by decide +kernel) (by decide) he (nx _ hI)
set_option maxRecDepth 100000 in
theorem lc_13 {l : Launch} {E : xE} {L : Nat} {xs : Nat → Int32} {M : xM} {i : Nat} (hi : i + 5 ≤ L) (hL : L ≤ 2560) (h : Inv M) (nx : ∀ M1, Inv M1 → Gl l E L xs 1216 M1 i []) : Gl l E L xs 639 M i [] := by
  refine Gl_x (by decide +kernel) ?_
  refine Gl_arg (iz := 1) 1 (by decide +kernel) (by decide +kernel) (by decide +kernel) rfl (by decide +kernel) (by decide +kernel) hi (by omega) hL ?_
  refine Gl_call (idx := 70) (mc := mX3_refuses) (As := [.int (xs (i + 1))]) (rest := []) (q := 0) (by decide +kernel) (xTbl_in 622 (by decide +kernel) rfl) okX3_refuses mvX3_refuses rfl ⟨by decide, by decide⟩ (Nat.le_of_ble_eq_true rfl) rfl rfl rfl (tX3_refuses (k_refuses h)) (fun r3 M3 hr3 => ?_)
  obtain ⟨x, rfl, hq⟩ := hr3
  refine Gl_m (by decide +kernel) ?_
  refine Gl_arg (iz := 1) 1 (by decide +kernel) (by decide +kernel) (by decide +kernel) rfl (by decide +kernel) (by decide +kernel) hi (by omega) hL ?_
  refine Gl_call (idx := 73) (mc := mX4_refuses) (As := [.int (xs (i + 1))]) (rest := [.int x]) (q := 50) (by decide +kernel) (xTbl_in 1064 (by decide +kernel) rfl) okX4_refuses mvX4_refuses rfl ⟨by decide, by decide⟩ (Nat.le_of_ble_eq_true rfl) rfl rfl rfl (tX4_refuses hq) (fun r4 M4 hr4 => ?_)
  obtain ⟨y, rfl, he, hI⟩ := hr4
  exact Gl_cmp (off := 559) (by decide +kernel) (by decide) he (nx _ hI)
set_option maxRecDepth 100000 in
theorem lc_14 {l : Launch} {E : xE} {L : Nat} {xs : Nat → Int32} {M : xM} {i : Nat} (hi : i + 5 ≤ L) (hL : L ≤ 2560) (h : Inv M) (nx : ∀ M1, Inv M1 → Gl l E L xs 1216 M1 i []) : Gl l E L xs 662 M i [] := by
  refine Gl_x (by decide +kernel) ?_
  refine Gl_call (idx := 74) (mc := mX3_check) (As := []) (rest := []) (q := 0) (by decide +kernel) (xTbl_in 627 (by decide +kernel) rfl) okX3_check mvX3_check rfl ⟨by decide, by decide⟩ (Nat.le_of_ble_eq_true rfl) rfl rfl rfl (tX3_check (k_check h)) (fun r3 M3 hr3 => ?_)
  obtain ⟨x, rfl, hq⟩ := hr3
  refine Gl_m (by decide +kernel) ?_
  refine Gl_call (idx := 77) (mc := mX4_check) (As := []) (rest := [.int x]) (q := 50) (by decide +kernel) (xTbl_in 1068 (by decide +kernel) rfl) okX4_check mvX4_check rfl ⟨by decide, by decide⟩ (Nat.le_of_ble_eq_true rfl) rfl rfl rfl (tX4_check hq) (fun r4 M4 hr4 => ?_)
  obtain ⟨y, rfl, he, hI⟩ := hr4
  exact Gl_cmp (off := 546) (by decide +kernel) (by decide) he (nx _ hI)
