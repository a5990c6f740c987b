/-! the law: its cases 35 .. 37 -/
set_option maxRecDepth 100000 in
theorem lc_35 {l : Launch} {E : xE} {L : Nat} {xs : Nat → Int32} {M : xM} {i : Nat} (hi : i + 5 ≤ L) (hL : L ≤ 2560) (h : Inv M) (nx : ∀ M1, Inv M1 → Gl l E L xs 1216 M1 i []) : Gl l E L xs 1167 M i [] := by
  refine Gl_x (by decide +kernel) ?_
  refine Gl_call (idx := 160) (mc := mX3_image) (As := []) (rest := []) (q := 0) (by decide +kernel) (xTbl_in 786 (by decide +kernel) rfl) okX3_image mvX3_image rfl ⟨by decide, by decide⟩ (Nat.le_of_ble_eq_true rfl) rfl rfl rfl (tX3_image (k_image h)) (fun r3 M3 hr3 => ?_)
  obtain ⟨x, rfl, hq⟩ := hr3
  refine Gl_m (by decide +kernel) ?_
  refine Gl_call (idx := 163) (mc := mX4_image) (As := []) (rest := [.int x]) (q := 50) (by decide +kernel) (xTbl_in 1218 (by decide +kernel) rfl) okX4_image mvX4_image rfl ⟨by decide, by decide⟩ (Nat.le_of_ble_eq_true rfl) rfl rfl rfl (tX4_image hq) (fun r4 M4 hr4 => ?_)
  obtain ⟨y, rfl, he, hI⟩ := hr4
  exact Gl_cmp (off := 41) (by decide +kernel) (by decide) he (nx _ hI)
set_option maxRecDepth 100000 in
theorem lc_36 {l : Launch} {E : xE} {L : Nat} {xs : Nat → Int32} {M : xM} {i : Nat} (hi : i + 5 ≤ L) (hL : L ≤ 2560) (h : Inv M) (nx : ∀ M1, Inv M1 → Gl l E L xs 1216 M1 i []) : Gl l E L xs 1180 M i [] := by
  refine Gl_x (by decide +kernel) ?_
  refine Gl_call (idx := 164) (mc := mX3_on) (As := []) (rest := []) (q := 0) (by decide +kernel) (xTbl_in 790 (by decide +kernel) rfl) okX3_on mvX3_on rfl ⟨by decide, by decide⟩ (Nat.le_of_ble_eq_true rfl) rfl rfl rfl (tX3_on (k_on h)) (fun r3 M3 hr3 => ?_)
  obtain ⟨x, rfl, hq⟩ := hr3
  refine Gl_m (by decide +kernel) ?_
  refine Gl_call (idx := 167) (mc := mX4_on) (As := []) (rest := [.int x]) (q := 50) (by decide +kernel) (xTbl_in 1222 (by decide +kernel) rfl) okX4_on mvX4_on rfl ⟨by decide, by decide⟩ (Nat.le_of_ble_eq_true rfl) rfl rfl rfl (tX4_on hq) (fun r4 M4 hr4 => ?_)
  obtain ⟨y, rfl, he, hI⟩ := hr4
  exact Gl_cmp (off := 28) (by decide +kernel) (by decide) he (nx _ hI)
set_option maxRecDepth 100000 in
theorem lc_37 {l : Launch} {E : xE} {L : Nat} {xs : Nat → Int32} {M : xM} {i : Nat} (hi : i + 5 ≤ L) (hL : L ≤ 2560) (h : Inv M) (nx : ∀ M1, Inv M1 → Gl l E L xs 1216 M1 i []) : Gl l E L xs 1193 M i [] := by
  refine Gl_x (by decide +kernel) ?_
  refine Gl_arg (iz := 1) 1 (by decide +kernel) (by decide +kernel) (by decide +kernel) rfl (by decide +kernel) (by decide +kernel) hi (by omega) hL ?_
  refine Gl_call (idx := 168) (mc := mX3_count) (As := [.int (xs (i + 1))]) (rest := []) (q := 0) (by decide +kernel) (xTbl_in 794 (by decide +kernel) rfl) okX3_count mvX3_count rfl ⟨by decide, by decide⟩ (Nat.le_of_ble_eq_true rfl) rfl rfl rfl (tX3_count (k_count h)) (fun r3 M3 hr3 => ?_)
  obtain ⟨x, rfl, hq⟩ := hr3
  refine Gl_m (by decide +kernel) ?_
  refine Gl_arg (iz := 1) 1 (by decide +kernel) (by decide +kernel) (by decide +kernel) rfl (by decide +kernel) (by decide +kernel) hi (by omega) hL ?_
  refine Gl_call (idx := 171) (mc := mX4_count) (As := [.int (xs (i + 1))]) (rest := [.int x]) (q := 50) (by decide +kernel) (xTbl_in 1226 (by decide +kernel) rfl) okX4_count mvX4_count rfl ⟨by decide, by decide⟩ (Nat.le_of_ble_eq_true rfl) rfl rfl rfl (tX4_count hq) (fun r4 M4 hr4 => ?_)
  obtain ⟨y, rfl, he, hI⟩ := hr4
  exact Gl_cmp (off := 5) (by decide +kernel) (by decide) he (nx _ hI)
