/-! calls that read and write one cell -/
theorem nn_of {x : Int32} {N : Nat} (hN : N < 2147483647) (h0 : 0 ≤ x) (h : x ≤ nI N) : ∃ t, t ≤ N ∧ x = nI t := by
  have e0 : (0 : Int32).toInt = 0 := rfl
  rw [Int32.le_iff_toInt_le, e0] at h0
  rw [Int32.le_iff_toInt_le, nI_toInt (by omega)] at h
  obtain ⟨t, h1, h2⟩ := vp_in_of (x := x) (n := N + 1) (vp_in_iff.mpr ⟨h0, by omega⟩) (by omega)
  exact ⟨t, by omega, h2⟩
theorem nn_0 (t : Nat) (ht : t < 2147483648) : (0 : Int32) ≤ nI t := by
  rw [show (0 : Int32) = nI 0 from rfl, z_le (by omega) ht]; omega
section K1
variable {M : xM}
theorem k_pointer {a b : Int32} (h : Inv M) : wX3_pointer M a b (fun r M1 => wX4_pointer M1 a b (fun r2 M2 => r = r2 ∧ Inv M2)) := by
  have h0 := h
  obtain ⟨hR, A, rf, v1, v2, v3, v4, v5, v6⟩ := h
  unfold wX3_pointer wX3_pointer_17
  refine k_outB (N := 10) (by omega) (fun ha => k_outA (N := 3) (by omega) (fun hb => ?_) (fun hb => ?_)) (fun ha => ?_)
  · obtain ⟨i, hi, rfl⟩ := vp_in_of ha (by omega)
    obtain ⟨k, hk, rfl⟩ := vp_in_of hb (by omega)
    have v : M 5 (3 * i + k) = tC (A (30 + (3 * i + k))) := v1.2.2.2.1 (3 * i + k) (by omega)
    simp (disch := omega) only [zl 3, z_mul, z_add, z_in, z_cl, v]
    refine ⟨by omega, ?_⟩
    unfold wX4_pointer wX4_pointer_25 wX4_pointer_30
    refine t_isInodeB (fun _ => t_inB (n := 2) (by omega) (fun _ => ?_) (fun q => absurd hb q)) (fun q => absurd ha q)
    exact t_pointerOf v5 v2 hi hk ⟨rfl, h0⟩
  · unfold wX4_pointer wX4_pointer_25 wX4_pointer_30
    refine k_ref (n := 1) (by omega) ?_
    exact t_isInodeB (fun _ => t_inB (n := 2) (by omega) (fun q => absurd q hb) (fun _ => fin_ref (by omega) h0)) (fun q => absurd ha q)
  · unfold wX4_pointer wX4_pointer_25 wX4_pointer_30
    refine k_ref (n := 1) (by omega) ?_
    exact t_isInodeB (fun q => absurd q ha) (fun _ => fin_ref (by omega) h0)
theorem k_slot {a b : Int32} (h : Inv M) : wX3_slot M a b (fun r M1 => wX4_slot M1 a b (fun r2 M2 => r = r2 ∧ Inv M2)) := by
  have h0 := h
  obtain ⟨hR, A, rf, v1, v2, v3, v4, v5, v6⟩ := h
  unfold wX3_slot wX3_slot_18
  refine k_outB (N := 10) (by omega) (fun ha => k_outA (N := 6) (by omega) (fun hb => ?_) (fun hb => ?_)) (fun ha => ?_)
  · obtain ⟨i, hi, rfl⟩ := vp_in_of ha (by omega)
    obtain ⟨k, hk, rfl⟩ := vp_in_of hb (by omega)
    have v : M 6 (6 * i + k) = eC (A (60 + (6 * i + k))) := v1.2.2.2.2.1 (6 * i + k) (by omega)
    simp (disch := omega) only [zl 6, z_mul, z_add, z_in, z_cl, v]
    refine ⟨by omega, ?_⟩
    unfold wX4_slot wX4_slot_25 wX4_slot_30
    refine t_isInodeB (fun _ => t_inB (n := 5) (by omega) (fun _ => ?_) (fun q => absurd hb q)) (fun q => absurd ha q)
    exact t_slotOf v5 v2 hi hk ⟨rfl, h0⟩
  · unfold wX4_slot wX4_slot_25 wX4_slot_30
    refine k_ref (n := 1) (by omega) ?_
    exact t_isInodeB (fun _ => t_inB (n := 5) (by omega) (fun q => absurd q hb) (fun _ => fin_ref (by omega) h0)) (fun q => absurd ha q)
  · unfold wX4_slot wX4_slot_25 wX4_slot_30
    refine k_ref (n := 1) (by omega) ?_
    exact t_isInodeB (fun q => absurd q ha) (fun _ => fin_ref (by omega) h0)
theorem k_points {a b c : Int32} (h : Inv M) : wX3_points M a b c (fun r M1 => wX4_points M1 a b c (fun r2 M2 => r = r2 ∧ Inv M2)) := by
  have h0 := h
  obtain ⟨hR, A, rf, v1, v2, v3, v4, v5, v6⟩ := h
  unfold wX3_points wX3_points_17
  refine k_outB (N := 10) (by omega) (fun ha => k_outA (N := 3) (by omega) (fun hb => ?_) (fun hb => ?_)) (fun ha => ?_)
  · refine ⟨fun z => ⟨fun z2 => ?_, fun z2 => ?_⟩, fun z => ?_⟩
    · obtain ⟨i, hi, rfl⟩ := vp_in_of ha (by omega)
      obtain ⟨k, hk, rfl⟩ := vp_in_of hb (by omega)
      obtain ⟨t, ht, rfl⟩ := nn_of (N := 99) (by omega) z z2
      refine r_pointAt (v := 1) v1 hi hk ht (fun M' c' s' => ?_)
      have co := cOff_s s' (by omega)
      have e51 : M' 51 = M 51 := cOff_51 co 51 (by omega)
      unfold wX4_points wX4_points_16
      refine t_isInodeB (fun _ => t_inA (n := 2) (by omega) (fun _ => ⟨fun _ => ⟨fun _ => ?_, fun q => absurd z2 q⟩, fun q => absurd z q⟩) (fun q => absurd hb q)) (fun q => absurd ha q)
      simp (disch := omega) only [zl 30, zl 3, zl 147, z_mul, z_add, Nat.add_assoc, z_in, z_cl]
      refine ⟨by omega, trivial, ?_⟩
      refine inv_fin hR co dOff_s c' (aOK_ptr v2 (by omega) ht) v3 ?_ (SV_n (SV_same v5 e51) (by omega)) ?_
      · rw [s' 0 (by omega)]; exact v4
      · rw [xup_at, upd, if_neg (by omega), e51]; exact v6
    · unfold wX4_points wX4_points_16
      refine k_ref (n := 6) (by omega) ?_
      exact t_isInodeB (fun _ => t_inA (n := 2) (by omega) (fun _ => ⟨fun _ => ⟨fun q => absurd q z2, fun _ => fin_ref (by omega) h0⟩, fun q => absurd z q⟩) (fun q => absurd hb q)) (fun q => absurd ha q)
    · unfold wX4_points wX4_points_16
      refine k_ref (n := 4) (by omega) ?_
      exact t_isInodeB (fun _ => t_inA (n := 2) (by omega) (fun _ => ⟨fun q => absurd q z, fun _ => fin_ref (by omega) h0⟩) (fun q => absurd hb q)) (fun q => absurd ha q)
  · unfold wX4_points wX4_points_16
    refine k_ref (n := 1) (by omega) ?_
    exact t_isInodeB (fun _ => t_inA (n := 2) (by omega) (fun q => absurd q hb) (fun _ => fin_ref (by omega) h0)) (fun q => absurd ha q)
  · unfold wX4_points wX4_points_16
    refine k_ref (n := 1) (by omega) ?_
    exact t_isInodeB (fun q => absurd q ha) (fun _ => fin_ref (by omega) h0)
theorem k_enters {a b c d : Int32} (h : Inv M) : wX3_enters M a b c d (fun r M1 => wX4_enters M1 a b c d (fun r2 M2 => r = r2 ∧ Inv M2)) := by
  have h0 := h
  obtain ⟨hR, A, rf, v1, v2, v3, v4, v5, v6⟩ := h
  unfold wX3_enters wX3_enters_28
  refine k_outB (N := 10) (by omega) (fun ha => k_outB (N := 6) (by omega) (fun hb => k_outA (N := 10) (by omega) (fun hd => k_outA (N := 26) (by omega) (fun hc => ?_) (fun hc => ?_)) (fun hd => ?_)) (fun hb => ?_)) (fun ha => ?_)
  · obtain ⟨i, hi, rfl⟩ := vp_in_of ha (by omega)
    obtain ⟨k, hk, rfl⟩ := vp_in_of hb (by omega)
    obtain ⟨t, ht, rfl⟩ := vp_in_of hd (by omega)
    obtain ⟨nm, hn, rfl⟩ := vp_in_of hc (by omega)
    refine r_enter (v := 1) v1 hi hk hn ht (fun M' c' s' => ?_)
    have co := cOff_s s' (by omega)
    have e51 : M' 51 = M 51 := cOff_51 co 51 (by omega)
    unfold wX4_enters wX4_enters_24
    refine t_isInodeB (fun _ => t_inB (n := 5) (by omega) (fun _ => t_isInodeA (fun _ => t_inA (n := 25) (by omega) (fun _ => ?_) (fun q => absurd hc q)) (fun q => absurd hd q)) (fun q => absurd hb q)) (fun q => absurd ha q)
    simp (disch := omega) only [zl 60, zl 6, zl 26, zl 147, z_mul, z_add, Nat.add_assoc, z_in, z_cl]
    refine ⟨by omega, trivial, ?_⟩
    have s2 := SV_e (x := 26 * t + nm) (SV_same v5 e51) (show 6 * i + k < 60 by omega)
    rw [eM_some (by omega)] at s2
    refine inv_fin hR co dOff_s c' (aOK_ent v2 (by omega) (by omega)) v3 ?_ s2 ?_
    · rw [s' 0 (by omega)]; exact v4
    · rw [xup_at, upd, if_neg (by omega), e51]; exact v6
  · unfold wX4_enters wX4_enters_24
    refine k_ref (n := 2) (by omega) ?_
    exact t_isInodeB (fun _ => t_inB (n := 5) (by omega) (fun _ => t_isInodeA (fun _ => t_inA (n := 25) (by omega) (fun q => absurd q hc) (fun _ => fin_ref (by omega) h0)) (fun q => absurd hd q)) (fun q => absurd hb q)) (fun q => absurd ha q)
  · unfold wX4_enters wX4_enters_24
    refine k_ref (n := 1) (by omega) ?_
    exact t_isInodeB (fun _ => t_inB (n := 5) (by omega) (fun _ => t_isInodeA (fun q => absurd q hd) (fun _ => fin_ref (by omega) h0)) (fun q => absurd hb q)) (fun q => absurd ha q)
  · unfold wX4_enters wX4_enters_24
    refine k_ref (n := 1) (by omega) ?_
    exact t_isInodeB (fun _ => t_inB (n := 5) (by omega) (fun q => absurd q hb) (fun _ => fin_ref (by omega) h0)) (fun q => absurd ha q)
  · unfold wX4_enters wX4_enters_24
    refine k_ref (n := 1) (by omega) ?_
    exact t_isInodeB (fun q => absurd q ha) (fun _ => fin_ref (by omega) h0)
theorem k_empties {a b : Int32} (h : Inv M) : wX3_empties M a b (fun r M1 => wX4_empties M1 a b (fun r2 M2 => r = r2 ∧ Inv M2)) := by
  have h0 := h
  obtain ⟨hR, A, rf, v1, v2, v3, v4, v5, v6⟩ := h
  unfold wX3_empties wX3_empties_18
  refine k_outB (N := 10) (by omega) (fun ha => k_outA (N := 6) (by omega) (fun hb => ?_) (fun hb => ?_)) (fun ha => ?_)
  · obtain ⟨i, hi, rfl⟩ := vp_in_of ha (by omega)
    obtain ⟨k, hk, rfl⟩ := vp_in_of hb (by omega)
    have v : M 6 (6 * i + k) = eC (A (60 + (6 * i + k))) := v1.2.2.2.2.1 (6 * i + k) (by omega)
    have b0 := v2.2.2.2.2.1 (6 * i + k) (by omega)
    have w := v5.2.2.2.2.1 (6 * i + k) (by omega)
    have g : 6 * i + k < 60 := by omega
    have go : ∀ r : Int32, (if A (60 + (6 * i + k)) = 260 then (0 : Int32) else 1) = r → wX3_empties_50 (nI i) (nI k) (fun r M1 => wX4_empties M1 (nI i) (nI k) (fun r2 M2 => r = r2 ∧ Inv M2)) M r := by
      intro r hr
      unfold wX3_empties_50
      simp (disch := omega) only [zl 6, z_mul, z_add, z_in, z_cl]
      refine ⟨g, ?_⟩
      have co : cOff M (xup M 6 (6 * i + k) (-9)) := cOff_up (by omega)
      have e51 : xup M 6 (6 * i + k) (-9) 51 = M 51 := xup_n (by omega)
      have c' : CV (xup M 6 (6 * i + k) (-9)) 1 (aUp A (60 + (6 * i + k)) 260) := CV_ent (v := 1) (x := 260) v1 g
      unfold wX4_empties wX4_empties_16
      refine t_isInodeB (fun _ => t_inA (n := 5) (by omega) (fun _ => ?_) (fun q => absurd hb q)) (fun q => absurd ha q)
      simp (disch := omega) only [zl 60, zl 6, z_mul, z_add, Nat.add_assoc]
      refine t_becomes (by omega) ?_
      rw [e51, w]
      have fin : Inv (xup (xup M 6 (6 * i + k) (-9)) 51 (60 + (6 * i + k)) (-1)) := by
        refine inv_fin hR co dOff_s c' (aOK_ent v2 g (by omega)) v3 ?_ (SV_e (x := 260) (SV_same v5 e51) g) ?_
        · rw [xup_n (by omega)]; exact v4
        · rw [xup_at, upd, if_neg (by omega), e51]; exact v6
      unfold wX4_empties_45
      refine ⟨fun z => ⟨?_, fin⟩, fun z => ⟨?_, fin⟩⟩
      · rw [if_neg (fun q => z ((eM_m1 b0).mpr q))] at hr; exact hr.symm
      · rw [if_pos ((eM_m1 b0).mp z)] at hr; exact hr.symm
    simp (disch := omega) only [zl 6, z_mul, z_add, z_in, z_cl, v, eC_m9]
    refine ⟨g, fun z => go 1 (if_neg z), fun z => go 0 (if_pos z)⟩
  · unfold wX4_empties wX4_empties_16
    refine k_ref (n := 1) (by omega) ?_
    exact t_isInodeB (fun _ => t_inA (n := 5) (by omega) (fun q => absurd q hb) (fun _ => fin_ref (by omega) h0)) (fun q => absurd ha q)
  · unfold wX4_empties wX4_empties_16
    refine k_ref (n := 1) (by omega) ?_
    exact t_isInodeB (fun q => absurd q ha) (fun _ => fin_ref (by omega) h0)
theorem k_kind {a b : Int32} (h : Inv M) : wX3_kind M a b (fun r M1 => wX4_kind M1 a b (fun r2 M2 => r = r2 ∧ Inv M2)) := by
  have h0 := h
  obtain ⟨hR, A, rf, v1, v2, v3, v4, v5, v6⟩ := h
  unfold wX3_kind
  refine k_outA (N := 10) (by omega) (fun ha => k_outA (N := 6) (by omega) (fun hb => ?_) (fun hb => ?_)) (fun ha => ?_)
  · obtain ⟨i, hi, rfl⟩ := vp_in_of ha (by omega)
    obtain ⟨k, hk, rfl⟩ := vp_in_of hb (by omega)
    have v : M 2 i = nI (A i) := v1.1 i hi
    have w := v5.1 i hi
    simp (disch := omega) only [z_in, z_cl, v]
    refine ⟨hi, ?_⟩
    have e51 : xup M 2 i (nI k) 51 = M 51 := xup_n (by omega)
    unfold wX4_kind wX4_kind_39
    refine t_isInodeA (fun _ => t_inB (n := 5) (by omega) (fun _ => ?_) (fun q => absurd hb q)) (fun q => absurd ha q)
    simp only [zl 0, z_add, Nat.zero_add]
    refine t_becomes (by omega) ?_
    rw [e51, w]
    refine ⟨rfl, inv_fin hR (cOff_up (by omega)) dOff_s (CV_kind (v := 1) v1 hi) (aOK_kind v2 hi hk) v3 ?_ (SV_n (SV_same v5 e51) (by omega)) ?_⟩
    · rw [xup_n (by omega)]; exact v4
    · rw [xup_at, upd, if_neg (by omega), e51]; exact v6
  · unfold wX4_kind wX4_kind_39
    refine k_ref (n := 2) (by omega) ?_
    exact t_isInodeA (fun _ => t_inB (n := 5) (by omega) (fun q => absurd q hb) (fun _ => fin_ref (by omega) h0)) (fun q => absurd ha q)
  · unfold wX4_kind wX4_kind_39
    refine k_ref (n := 1) (by omega) ?_
    exact t_isInodeA (fun q => absurd q ha) (fun _ => fin_ref (by omega) h0)
theorem k_links {a b c : Int32} (h : Inv M) : wX3_links M a b c (fun r M1 => wX4_links M1 a b c (fun r2 M2 => r = r2 ∧ Inv M2)) := by
  have h0 := h
  obtain ⟨hR, A, rf, v1, v2, v3, v4, v5, v6⟩ := h
  unfold wX3_links wX3_links_18
  refine k_outB (N := 10) (by omega) (fun ha => k_outA (N := 10) (by omega) (fun hc => ?_) (fun hc => ?_)) (fun ha => ?_)
  · refine ⟨fun z => ⟨fun z2 => ?_, fun z2 => ?_⟩, fun z => ?_⟩
    · obtain ⟨i, hi, rfl⟩ := vp_in_of ha (by omega)
      obtain ⟨k, hk, rfl⟩ := vp_in_of hc (by omega)
      obtain ⟨t, ht, rfl⟩ := nn_of (N := 9) (by omega) z z2
      have va : M 3 i = nI (A (10 + i)) := v1.2.1 i hi
      have vb : M 4 i = nI (A (20 + i)) := v1.2.2.1 i hi
      have wa := v5.2.1 i hi
      have wb := v5.2.2.1 i hi
      simp (disch := omega) only [z_in, z_cl, va, vb]
      refine ⟨hi, ?_⟩
      have e51 : xup (xup M 3 i (nI t)) 4 i (nI k) 51 = M 51 := by rw [xup_n (by omega), xup_n (by omega)]
      have co : cOff M (xup (xup M 3 i (nI t)) 4 i (nI k)) := cOff_tr (cOff_up (by omega)) (cOff_up (by omega))
      unfold wX4_links wX4_links_14
      refine t_isInodeB (fun _ => t_isInodeA (fun _ => ⟨fun _ => ⟨fun _ => ?_, fun q => absurd z2 q⟩, fun q => absurd z q⟩) (fun q => absurd hc q)) (fun q => absurd ha q)
      rw [show (10 : Int32) + nI i = nI (10 + i) from z_add 10 i, show (20 : Int32) + nI i = nI (20 + i) from z_add 20 i]
      refine t_becomes (by omega) (t_becomes (by omega) ?_)
      have e2 : xup (xup (xup M 3 i (nI t)) 4 i (nI k)) 51 (10 + i) (nI t) 51 (20 + i) = nI (A (20 + i)) := by
        rw [xup_at, upd, if_neg (by omega), e51, wb]
      rw [e2, e51, wa]
      refine ⟨rfl, inv_fin hR co (dOff_tr dOff_s dOff_s) (CV_par (v := 1) (CV_link (v := 1) v1 hi) hi) (aOK_par (aOK_link v2 hi (by omega)) hi hk) v3 ?_ (SV_n (SV_n (SV_same v5 e51) (by omega)) (by omega)) ?_⟩
      · rw [xup_n (by omega), xup_n (by omega)]; exact v4
      · rw [xup_at, upd, if_neg (by omega), xup_at, upd, if_neg (by omega), e51]; exact v6
    · unfold wX4_links wX4_links_14
      refine k_ref (n := 6) (by omega) ?_
      exact t_isInodeB (fun _ => t_isInodeA (fun _ => ⟨fun _ => ⟨fun q => absurd q z2, fun _ => fin_ref (by omega) h0⟩, fun q => absurd z q⟩) (fun q => absurd hc q)) (fun q => absurd ha q)
    · unfold wX4_links wX4_links_14
      refine k_ref (n := 4) (by omega) ?_
      exact t_isInodeB (fun _ => t_isInodeA (fun _ => ⟨fun q => absurd q z, fun _ => fin_ref (by omega) h0⟩) (fun q => absurd hc q)) (fun q => absurd ha q)
  · unfold wX4_links wX4_links_14
    refine k_ref (n := 1) (by omega) ?_
    exact t_isInodeB (fun _ => t_isInodeA (fun q => absurd q hc) (fun _ => fin_ref (by omega) h0)) (fun q => absurd ha q)
  · unfold wX4_links wX4_links_14
    refine k_ref (n := 1) (by omega) ?_
    exact t_isInodeB (fun q => absurd q ha) (fun _ => fin_ref (by omega) h0)
theorem k_writes {a b : Int32} (h : Inv M) : wX3_writes M a b (fun r M1 => wX4_writes M1 a b (fun r2 M2 => r = r2 ∧ Inv M2)) := by
  have h0 := h
  obtain ⟨hR, A, rf, v1, v2, v3, v4, v5, v6⟩ := h
  unfold wX3_writes
  refine k_outA (N := 24) (by omega) (fun ha => ⟨fun z => ⟨fun z2 => ?_, fun z2 => ?_⟩, fun z => ?_⟩) (fun ha => ?_)
  · obtain ⟨i, hi, rfl⟩ := vp_in_of ha (by omega)
    obtain ⟨t, ht, rfl⟩ := nn_of (N := 99) (by omega) z z2
    have v : M 7 i = nI (A (120 + i)) := v1.2.2.2.2.2.1 i hi
    have w := v5.2.2.2.2.2.1 i hi
    simp (disch := omega) only [z_in, z_cl, v]
    refine ⟨hi, ?_⟩
    have e51 : xup M 7 i (nI t) 51 = M 51 := xup_n (by omega)
    unfold wX4_writes wX4_writes_48
    refine t_isBlockA (fun _ => ⟨fun _ => ⟨fun _ => ?_, fun q => absurd z2 q⟩, fun q => absurd z q⟩) (fun q => absurd ha q)
    rw [show (120 : Int32) + nI i = nI (120 + i) from z_add 120 i]
    refine t_becomes (by omega) ?_
    rw [e51, w]
    refine ⟨rfl, inv_fin hR (cOff_up (by omega)) dOff_s (CV_byt (v := 1) v1 hi) (aOK_byt v2 hi ht) v3 ?_ (SV_n (SV_same v5 e51) (by omega)) ?_⟩
    · rw [xup_n (by omega)]; exact v4
    · rw [xup_at, upd, if_neg (by omega), e51]; exact v6
  · unfold wX4_writes wX4_writes_48
    refine k_ref (n := 6) (by omega) ?_
    exact t_isBlockA (fun _ => ⟨fun _ => ⟨fun q => absurd q z2, fun _ => fin_ref (by omega) h0⟩, fun q => absurd z q⟩) (fun q => absurd ha q)
  · unfold wX4_writes wX4_writes_48
    refine k_ref (n := 4) (by omega) ?_
    exact t_isBlockA (fun _ => ⟨fun q => absurd q z, fun _ => fin_ref (by omega) h0⟩) (fun q => absurd ha q)
  · unfold wX4_writes wX4_writes_48
    refine k_ref (n := 1) (by omega) ?_
    exact t_isBlockA (fun q => absurd q ha) (fun _ => fin_ref (by omega) h0)
theorem k_marks {a b : Int32} (h : Inv M) : wX3_marks M a b (fun r M1 => wX4_marks M1 a b (fun r2 M2 => r = r2 ∧ Inv M2)) := by
  have h0 := h
  obtain ⟨hR, A, rf, v1, v2, v3, v4, v5, v6⟩ := h
  have g4 : vp_in 144 147 := (z_in (a := 144) (by omega) (by omega)).mpr (by omega)
  have g5 : vp_in 145 147 := (z_in (a := 145) (by omega) (by omega)).mpr (by omega)
  have t4 : (144 : Int32).toNatClampNeg = 144 := rfl
  have t5 : (145 : Int32).toNatClampNeg = 145 := rfl
  have i2 : ∀ x : Int32, vp_in x 2 ↔ x = 0 ∨ x = 1 := fun x => by
    constructor
    · intro q
      obtain ⟨j, hj, rfl⟩ := vp_in_of q (by omega)
      rcases (show j = 0 ∨ j = 1 by omega) with rfl | rfl
      · exact Or.inl rfl
      · exact Or.inr rfl
    · rintro (rfl | rfl)
      · exact (z_in (a := 0) (by omega) (by omega)).mpr (by omega)
      · exact (z_in (a := 1) (by omega) (by omega)).mpr (by omega)
  have i0 : vp_in (0 : Int32) (1 + 1) := (i2 0).mpr (Or.inl rfl)
  have i1 : vp_in (1 : Int32) (1 + 1) := (i2 1).mpr (Or.inr rfl)
  unfold wX3_marks wX3_marks_16 wX3_marks_28
  refine ⟨fun z => ⟨fun q => absurd z q, fun _ => ?_⟩, fun z => ⟨fun z2 => ⟨fun _ => ?_, fun q => absurd q z⟩, fun z2 => ?_⟩⟩
  · subst z
    refine k_outA (N := 24) (by omega) (fun hb => ⟨fun q => absurd rfl q, fun _ => ?_⟩) (fun hb => ?_)
    · obtain ⟨i, hi, rfl⟩ := vp_in_of hb (by omega)
      have v : M 1 6 = nI (A 144) := v1.2.2.2.2.2.2.1
      have w := v5.2.2.2.2.2.2.1
      have hx : nI (A 144) ^^^ ((1 : Int32) <<< (nI i &&& 31)) = nI (A 144 ^^^ 2 ^ i) := by rw [one_shl (by omega), fb_xorI]
      rw [v, hx]
      have ec : xup M 1 6 (nI (A 144 ^^^ 2 ^ i)) 1 6 = nI (A 144 ^^^ 2 ^ i) := by rw [xup_at, upd, if_pos rfl]
      rw [ec]
      have e51 : xup M 1 6 (nI (A 144 ^^^ 2 ^ i)) 51 = M 51 := xup_n (by omega)
      unfold wX4_marks wX4_marks_37 wX4_marks_43 wX4_marks_56
      refine t_inA (n := 1) (by omega) (fun _ => ⟨fun q => absurd rfl q, fun _ => t_isBlockA (fun _ => ⟨fun q => absurd rfl q, fun _ => ⟨g4, ?_⟩⟩) (fun q => absurd hb q)⟩) (fun q => absurd i0 q)
      rw [t4, e51, w, hx]
      have er : xup (xup M 1 6 (nI (A 144 ^^^ 2 ^ i))) 51 144 (nI (A 144 ^^^ 2 ^ i)) 51 144 = nI (A 144 ^^^ 2 ^ i) := by rw [xup_at, upd, if_pos rfl]
      rw [er]
      refine ⟨rfl, inv_fin hR (cOff_up (by omega)) dOff_s (CV_bm (v := 1) v1) (aOK_bm v2 (x_lt v2.2.2.2.2.2.2.1 hi)) v3 ?_ (SV_n (SV_same v5 e51) (by omega)) ?_⟩
      · rw [xup_n (by omega)]; exact v4
      · rw [xup_at, upd, if_neg (by omega), e51]; exact v6
    · unfold wX4_marks wX4_marks_37 wX4_marks_43 wX4_marks_56
      refine k_ref (n := 1) (by omega) ?_
      exact t_inA (n := 1) (by omega) (fun _ => ⟨fun q => absurd rfl q, fun _ => t_isBlockA (fun q => absurd q hb) (fun _ => fin_ref (by omega) h0)⟩) (fun q => absurd i0 q)
  · subst z2
    refine k_outA (N := 10) (by omega) (fun hb => ⟨fun _ => ?_, fun q => absurd q z⟩) (fun hb => ?_)
    · obtain ⟨i, hi, rfl⟩ := vp_in_of hb (by omega)
      have v : M 1 7 = nI (A 145) := v1.2.2.2.2.2.2.2
      have w := v5.2.2.2.2.2.2.2
      have hx : nI (A 145) ^^^ ((1 : Int32) <<< (nI i &&& 31)) = nI (A 145 ^^^ 2 ^ i) := by rw [one_shl (by omega), fb_xorI]
      rw [v, hx]
      have ec : xup M 1 7 (nI (A 145 ^^^ 2 ^ i)) 1 7 = nI (A 145 ^^^ 2 ^ i) := by rw [xup_at, upd, if_pos rfl]
      rw [ec]
      have e51 : xup M 1 7 (nI (A 145 ^^^ 2 ^ i)) 51 = M 51 := xup_n (by omega)
      unfold wX4_marks wX4_marks_37 wX4_marks_43 wX4_marks_56
      refine t_inA (n := 1) (by omega) (fun _ => ⟨fun _ => t_isInodeA (fun _ => ⟨fun _ => ⟨g5, ?_⟩, fun q => absurd q z⟩) (fun q => absurd hb q), fun q => absurd q z⟩) (fun q => absurd i1 q)
      rw [t5, e51, w, hx]
      have er : xup (xup M 1 7 (nI (A 145 ^^^ 2 ^ i))) 51 145 (nI (A 145 ^^^ 2 ^ i)) 51 145 = nI (A 145 ^^^ 2 ^ i) := by rw [xup_at, upd, if_pos rfl]
      rw [er]
      refine ⟨rfl, inv_fin hR (cOff_up (by omega)) dOff_s (CV_im (v := 1) v1) (aOK_im v2 (x_lt v2.2.2.2.2.2.2.2 hi)) v3 ?_ (SV_n (SV_same v5 e51) (by omega)) ?_⟩
      · rw [xup_n (by omega)]; exact v4
      · rw [xup_at, upd, if_neg (by omega), e51]; exact v6
    · unfold wX4_marks wX4_marks_37 wX4_marks_43 wX4_marks_56
      refine k_ref (n := 1) (by omega) ?_
      exact t_inA (n := 1) (by omega) (fun _ => ⟨fun _ => t_isInodeA (fun q => absurd q hb) (fun _ => fin_ref (by omega) h0), fun q => absurd q z⟩) (fun q => absurd i1 q)
  · unfold wX4_marks
    refine k_ref (n := 2) (by omega) ?_
    exact t_inA (n := 1) (by omega) (fun q => absurd ((i2 a).mp q) (fun w => w.elim z z2)) (fun _ => fin_ref (by omega) h0)
end K1
