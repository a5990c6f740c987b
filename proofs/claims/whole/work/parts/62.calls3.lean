/-! the image; counts; what is shared -/
section K3
variable {M : xM} {A : Nat → Nat}
theorem t_isBlockB {x : Int32} {P R : xM → Prop} (h1 : vp_in x 24 → P M) (h0 : ¬ vp_in x 24 → R M) : wX4_isBlock M x (fun r M' => (r = 0 → R M') ∧ (¬ r = 0 → P M')) :=
  t_isBlock (fun h => ⟨fun z => absurd z (by decide), fun _ => h1 h⟩) (fun h => ⟨fun _ => h0 h, fun z => absurd rfl z⟩)
theorem ct_pop {n : Nat} (hn : n ≤ 24) (p : Nat → Bool) {Q : Int32 → xM → Prop} (hq : Q (nI (fb_ct p n)) M) : wJ6_bitCount_0f7a4 M (bs p n) Q := s_popcount hn p hq
theorem k_image (h : Inv M) : wX3_image M (fun r M1 => wX4_image M1 (fun r2 M2 => r = r2 ∧ Inv M2)) := by
  obtain ⟨⟨hR1, hR2, hR3, hR4⟩, A, rf, v1, v2, v3, v4, v5, v6⟩ := h
  unfold wX3_image
  refine r_takeFrom (v := 15) (o := 1) xVol_at15 xVol_at1 (by omega) v1 (fun M1 c1 s1 => ?_)
  have m11 : M1 0 11 = bs rf 17 := by rw [s1 0 (by omega)]; exact v4
  rw [m11]
  obtain ⟨M2, hM2⟩ : ∃ M2, M2 = xup (xup M1 0 4 (bs rf 17)) 0 3 1 := ⟨_, rfl⟩
  rw [← hM2]
  have o2 : ∀ p, p ≠ 0 → M2 p = M1 p := fun p a => by rw [hM2, xup_n a, xup_n a]
  have z3 : M2 0 3 = 1 := by rw [hM2, xup_at, upd, if_pos rfl]
  have z4 : M2 0 4 = bs rf 17 := by rw [hM2, xup_at, upd, if_neg (by omega), xup_at, upd, if_pos rfl]
  have zz : ∀ k, k ≠ 3 → k ≠ 4 → M2 0 k = M 0 k := fun k a b => by rw [hM2, xup_at, upd, if_neg a, xup_at, upd, if_neg b, s1 0 (by omega)]
  have oo : ∀ p, p ≠ 0 → ¬ (15 ≤ p ∧ p ≤ 21) → M2 p = M p := fun p a b => by rw [o2 p a]; exact s1 p (by omega)
  have v1' : CV M2 1 A := CV_same v1 fun d hd => oo _ (by omega) (by omega)
  refine r_inodesInUse (v := 1) v1' v2 (ct_pop (by omega) _ ?_)
  unfold wX4_image
  have key := z_loop (P := fun n j => ∀ M', (∀ k, k < j → M' 52 k = M2 51 k) → (∀ p, p ≠ 52 → M' p = M2 p) → lX4_image_2 (fun r2 M2 => nI (fb_ct (aUse A) 10) = r2 ∧ Inv M2) n M' (nI j)) 147 (fun n M' h1 h2 => ?_) (fun n j hj hn M' h1 h2 => ?_)
  · obtain ⟨n, hn⟩ := key
    exact ⟨n, hn M2 (fun k hk => absurd hk (Nat.not_lt_zero k)) (fun _ _ => rfl)⟩
  · unfold lX4_image_2
    simp (disch := omega) only [zl 147, z_le, Nat.le_refl, true_implies, not_true, false_implies, and_true]
    have e51 : M2 51 = M 51 := oo 51 (by omega) (by omega)
    have o4 : ∀ p, p ≠ 50 → p ≠ 52 → xup M' 50 4 1 p = M2 p := fun p a b => by rw [xup_n a]; exact h2 p b
    have o5 : ∀ p, p ≠ 0 → p ≠ 50 → p ≠ 52 → ¬ (15 ≤ p ∧ p ≤ 21) → xup M' 50 4 1 p = M p := fun p a b c d => by rw [o4 p b c]; exact oo p a d
    have f5 : ∀ j, j ≠ 4 → xup M' 50 4 1 50 j = M 50 j := fun j hj => by rw [xup_at, upd, if_neg hj, h2 50 (by omega), oo 50 (by omega) (by omega)]
    have f0 : xup M' 50 4 1 0 = M2 0 := o4 0 (by omega) (by omega)
    have e52 : xup M' 50 4 1 52 = M' 52 := xup_n (by omega)
    have v5' : SV (xup M' 50 4 1) A := SV_same v5 (o5 51 (by omega) (by omega) (by omega) (by omega))
    refine t_inodes v5' v2 ⟨rfl, ⟨Or.inr ⟨?_, ?_, A, rf, CV_same c1 fun d hd => ?_, v2, v3, ?_, ?_, ?_⟩, IRr_eq hR2 ?_ (f5 16 (by omega)) (o5 48 (by omega) (by omega) (by omega) (by omega)) (o5 59 (by omega) (by omega) (by omega) (by omega)), IRl_eq hR3 ?_ (f5 7 (by omega)) (o5 47 (by omega) (by omega) (by omega) (by omega)) (o5 55 (by omega) (by omega) (by omega) (by omega)), IRc_eq hR4 (o5 49 (by omega) (by omega) (by omega) (by omega)) (o5 54 (by omega) (by omega) (by omega) (by omega))⟩, A, rf, CV_same v1 fun d hd => o5 _ (by omega) (by omega) (by omega) (by omega), v2, v3, ?_, v5', ?_⟩
    · rw [f0]; exact z3
    · rw [xup_at, upd, if_pos rfl]
    · rw [o4 _ (by omega) (by omega), o2 _ (by omega)]
    · rw [f0]; exact z4
    · rw [e52]; exact SVf_same v5 fun k hk => by rw [h1 k (by omega), e51]
    · rw [e52, h1 146 (by omega), e51]; exact v6
    · rw [f0, zz 9 (by omega) (by omega)]
    · rw [o5 46 (by omega) (by omega) (by omega) (by omega)]
    · rw [f0, zz 11 (by omega) (by omega)]; exact v4
    · rw [o5 51 (by omega) (by omega) (by omega) (by omega)]; exact v6
  · unfold lX4_image_2
    dsimp only
    simp (disch := omega) only [zl 147, z_le, z_in, z_cl, hj, true_and, nI_1]
    refine ⟨fun z => absurd z (by omega), fun _ => hn _ (fun k hk => ?_) (fun p hp => (xup_n hp).trans (h2 p hp))⟩
    rw [xup_at, upd]
    by_cases e : k = j
    · rw [if_pos e, h2 51 (by omega), e]
    · rw [if_neg e]; exact h1 k (by omega)
theorem k_on (h : Inv M) : wX3_on M (fun r M1 => wX4_on M1 (fun r2 M2 => r = r2 ∧ Inv M2)) := by
  have h0 := h
  obtain ⟨hR, A, rf, v1, v2, v3, v4, v5, v6⟩ := h
  unfold wX3_on
  rcases hR.1 with ⟨a, b⟩ | ⟨a, b, B, rg, c1, c2, c3, c4, c5, c6⟩
  · refine ⟨fun z => absurd a z, fun _ => k_ref (n := 3) (by omega) ?_⟩
    unfold wX4_on
    have e : refd M 3 50 4 = 0 := by rw [show refd M 3 50 = M 50 from xup_n (by omega)]; exact b
    exact ⟨fun z => absurd e z, fun _ => fin_ref (by omega) h0⟩
  · refine ⟨fun _ => r_takeFrom (v := 1) (o := 15) xVol_at1 xVol_at15 (by omega) c1 (fun M1 d1 s1 => ?_), fun z => absurd (z.symm.trans a) (by decide)⟩
    have m4 : M1 0 4 = bs rg 17 := by rw [s1 0 (by omega)]; exact c4
    rw [m4]
    have co : cOff M (xup M1 0 11 (bs rg 17)) := cOff_tr (cOff_s s1 (by omega)) (cOff_0 (Or.inl rfl))
    have c11 : xup M1 0 11 (bs rg 17) 0 11 = bs rg 17 := by rw [xup_at, upd, if_pos rfl]
    have d1' : CV (xup M1 0 11 (bs rg 17)) 1 B := CV_same d1 fun d hd => xup_n (by omega)
    generalize xup M1 0 11 (bs rg 17) = M2 at co c11 d1'
    have o52 : M2 52 = M 52 := cOff_51 co 52 (by omega)
    have o50 : M2 50 = M 50 := cOff_51 co 50 (by omega)
    refine r_inodesInUse (v := 1) d1' c2 (ct_pop (by omega) _ ?_)
    unfold wX4_on
    refine ⟨fun _ => ?_, fun z => absurd (by rw [o50, b] at z; exact z) (by decide)⟩
    have key := z_loop (P := fun n j => ∀ M', (∀ k, k < j → M' 51 k = M2 52 k) → (∀ p, p ≠ 51 → M' p = M2 p) → lX4_on_16 (fun r2 M2 => nI (fb_ct (aUse B) 10) = r2 ∧ Inv M2) n M' (nI j)) 147 (fun n M' h1 h2 => ?_) (fun n j hj hn M' h1 h2 => ?_)
    · obtain ⟨n, hn⟩ := key
      exact ⟨n, hn M2 (fun k hk => absurd hk (Nat.not_lt_zero k)) (fun _ _ => rfl)⟩
    · unfold lX4_on_16
      simp (disch := omega) only [zl 147, z_le, Nat.le_refl, true_implies, not_true, false_implies, and_true]
      have sv : SV M' B := SVf_same c5 fun k hk => by rw [h1 k (by omega), o52]
      exact t_inodes sv c2 ⟨rfl, inv_fin hR co (dOff_51 h2) d1' c2 c3 c11 sv (by rw [h1 146 (by omega), o52]; exact c6)⟩
    · unfold lX4_on_16
      dsimp only
      simp (disch := omega) only [zl 147, z_le, z_in, z_cl, hj, true_and, nI_1]
      refine ⟨fun z => absurd z (by omega), fun _ => hn _ (fun k hk => ?_) (fun p hp => (xup_n hp).trans (h2 p hp))⟩
      rw [xup_at, upd]
      by_cases e : k = j
      · rw [if_pos e, h2 52 (by omega), e]
      · rw [if_neg e]; exact h1 k (by omega)
theorem t_kinds {d : Bool} {Q : Int32 → xM → Prop} (hS : SV M A) (hO : aOK A) (hq : Q (bs (if d = true then aDir A else aUse A) 10) M) : wX4_kinds M (bI d) Q := by
  have h1 := hS.1
  unfold wX4_kinds
  obtain ⟨f, hf⟩ : ∃ f : Nat → Bool, f = if d = true then aDir A else aUse A := ⟨_, rfl⟩
  rw [← hf] at hq
  refine z_loop (P := fun n j => lX4_kinds_4 (bI d) Q n M (bs f j) (nI j)) 10 (fun n => ?_) (fun n j hj hn => ?_)
  · unfold lX4_kinds_4
    simp (disch := omega) only [zl 10, z_le, Nat.le_refl, true_implies, not_true, false_implies, and_true]
    exact hq
  · have v := h1 j hj
    have b := hO.1 j hj
    have g : j < 147 := by omega
    have hn' : lX4_kinds_4 (bI d) Q n M (bs f j ||| (if f j = true then (1 : Int32) <<< (nI j &&& 31) else 0)) (nI (j + 1)) := hn
    have half : wX4_kinds_38 (bI d) Q (lX4_kinds_4 (bI d) Q n) M (bs f j) (nI j) (bI (f j)) := by
      unfold wX4_kinds_38 wX4_kinds_53
      rw [nI_1]
      refine ⟨fun z => ?_, fun z => ?_⟩
      · rw [if_neg (by rw [(bI_0 _).mp z]; decide)] at hn'; exact hn'
      · rw [if_pos (bI_ne z)] at hn'; exact hn'
    unfold lX4_kinds_4
    dsimp only
    rw [show (0 : Int32) + nI j = nI j by rw [show (0 : Int32) = nI 0 from rfl, z_add, Nat.zero_add], z_cl (by omega), z_in (by omega) (by omega), v]
    simp (disch := omega) only [zl 10, z_le]
    refine ⟨fun z => absurd z (by omega), fun _ => ⟨fun z => ⟨g, fun z2 => ?_, fun z2 => ?_⟩, fun z => t_isDirectory hS hO hj ?_⟩⟩
    · have e : f j = false := by rw [hf, (bI_0 _).mp z, if_neg (by decide)]; unfold aUse; simp [(z_eq (b := 0) (by omega) (by omega)).mp z2]
      rw [e] at half; exact half
    · have e : f j = true := by
        rw [hf, (bI_0 _).mp z, if_neg (by decide)]; unfold aUse
        have : ¬ A j = 0 := fun q => z2 (by rw [q]; rfl)
        simp [this]
      rw [e] at half; exact half
    · have e : f j = aDir A j := by rw [hf, bI_ne z, if_pos rfl]
      rw [e] at half; exact half
theorem t_blocksOf {S : Nat → Bool} {Q : Int32 → xM → Prop} (hS : SV M A) (hO : aOK A) (hq : Q (bs (fun b => anyN (fun k => S (k / 3) && aTo A b k) 30) 24) M) : wX4_blocksOf M (bs S 10) Q := by
  have h1 := hS.2.2.2.1
  unfold wX4_blocksOf
  have e0 : (0 : Int32) = bs (fun b => anyN (fun k => S (k / 3) && aTo A b k) 0) 24 := by rw [eq_comm, bs_zero (by omega)]; intro k _; rfl
  have key := z_loop (P := fun n j => lX4_blocksOf_4 (bs S 10) Q n M (bs (fun b => anyN (fun k => S (k / 3) && aTo A b k) j) 24) (nI j)) 30 (fun n => ?_) (fun n j hj hn => ?_)
  · rw [← e0] at key; exact key
  · unfold lX4_blocksOf_4
    simp (disch := omega) only [zl 30, z_le, Nat.le_refl, true_implies, not_true, false_implies, and_true]
    exact hq
  · have v := h1 j hj
    have b := hO.2.2.2.1 j hj
    have g : 30 + j < 147 := by omega
    have tst := bs_test S (n := 10) (i := j / 3) (by omega) (by omega)
    have hn' : lX4_blocksOf_4 (bs S 10) Q n M (bs (fun b => anyN (fun k => S (k / 3) && aTo A b k) j) 24 ||| bs (fun b => S (j / 3) && aTo A b j) 24) (nI (j + 1)) := by
      rw [bs_or _ _ (by omega)]; exact hn
    generalize bs (fun b => anyN (fun k => S (k / 3) && aTo A b k) j) 24 = acc at hn'
    have zero : (∀ b, b < 24 → (S (j / 3) && aTo A b j) = false) → lX4_blocksOf_4 (bs S 10) Q n M (acc ||| 0) (nI (j + 1)) := fun hz => by
      rw [(bs_zero (by omega)).mpr hz] at hn'; exact hn'
    unfold lX4_blocksOf_4 wX4_blocksOf_40 wX4_blocksOf_41 wX4_blocksOf_64
    dsimp only
    simp (disch := omega) only [zl 30, zl 3, zl 147, z_le, z_add, z_in, z_cl, z_div, v, g, true_and, tst, nI_1]
    refine ⟨fun z => absurd z (by omega), fun _ => ⟨fun z => ⟨fun _ => zero (fun b _ => ?_), fun z2 => absurd trivial z2⟩, fun z => ?_⟩⟩
    · cases hg : S (j / 3) with
      | false => rfl
      | true => rw [hg] at z; exact absurd rfl z
    · have hg : S (j / 3) = true := by
        cases hg : S (j / 3) with
        | true => rfl
        | false => rw [hg] at z; exact absurd z (by decide)
      refine t_isBlockB (fun hb => ?_) (fun hb => ?_)
      · have hb2 : A (30 + j) < 24 := (z_in (by omega) (by omega)).mp hb
        refine ⟨fun z2 => absurd z2 (by decide), fun _ => ?_⟩
        have e : bs (fun b => S (j / 3) && aTo A b j) 24 = (1 : Int32) <<< (nI (A (30 + j)) &&& 31) := by
          rw [← bs_to hb2]
          exact bs_cong fun b _ => by rw [hg]; rfl
        rw [e, ← v] at hn'; exact hn'
      · have hb2 : ¬ A (30 + j) < 24 := fun q => hb ((z_in (by omega) (by omega)).mpr q)
        refine ⟨fun _ => zero (fun b hb3 => ?_), fun z2 => absurd trivial z2⟩
        have : aTo A b j = false := by unfold aTo; rw [beq_eq_false_iff_ne]; omega
        rw [this, Bool.and_false]
theorem aPt_all {b : Nat} : anyN (fun k => (fun _ : Nat => true) (k / 3) && aTo A b k) 30 = aPt A b := anyN_cong fun k _ => rfl
theorem b1023 : (1023 : Int32) = bs (fun _ => true) 10 := by decide
theorem t_shared {Q : Int32 → xM → Prop} {a : Int32} (hS : SV M A) (hO : aOK A) (h0 : a = 0 → Q (bs (fun b => decide (2 ≤ fb_ct (aTo A b) 30)) 24) M) (h1 : ¬ a = 0 → Q (if fa_first (fun b => !aPt A b) 24 < 24 then nI (fa_first (fun b => !aPt A b) 24) else -9) M) : ∃ n, lX4_shared_20 a Q n M 0 0 := by
  refine z_loop (P := fun n j => lX4_shared_20 a Q n M (bs (fun b => decide (2 ≤ fb_ct (aTo A b) 30)) j) (nI j)) 24 (fun n => ?_) (fun n j hj hn => ?_)
  · unfold lX4_shared_20 wX4_shared_63
    simp (disch := omega) only [zl 24, z_le, Nat.le_refl, true_implies, not_true, false_implies, and_true]
    exact ⟨fun z => t_freeBlock hS hO (h1 z), h0⟩
  · have hn' : lX4_shared_20 a Q n M (bs (fun b => decide (2 ≤ fb_ct (aTo A b) 30)) j ||| (if decide (2 ≤ fb_ct (aTo A j) 30) = true then (1 : Int32) <<< (nI j &&& 31) else 0)) (nI (j + 1)) := hn
    have h30 := fb_ct_le (aTo A j) 30
    unfold lX4_shared_20 wX4_shared_43
    dsimp only
    simp (disch := omega) only [zl 24, z_le, nI_1]
    refine ⟨fun z => absurd z (by omega), fun _ => t_pointersTo hS hO (by omega) ?_⟩
    rw [show (1 : Int32) = nI 1 from rfl, z_le (by omega) (by omega)]
    refine ⟨fun z => ?_, fun z => ?_⟩
    · rw [if_neg (by simp; omega)] at hn'; exact hn'
    · rw [if_pos (by simp; omega)] at hn'; exact hn'
theorem two01 (x : Int32) : vp_in x 2 ↔ x = 0 ∨ x = 1 := by
  constructor
  · intro q
    obtain ⟨j, hj, rfl⟩ := vp_in_of q (by omega)
    rcases (show j = 0 ∨ j = 1 by omega) with rfl | rfl
    · exact Or.inl rfl
    · exact Or.inr rfl
  · rintro (rfl | rfl)
    · exact (z_in (a := 0) (by omega) (by omega)).mpr (by omega)
    · exact (z_in (a := 1) (by omega) (by omega)).mpr (by omega)
theorem k_shared {a : Int32} (h : Inv M) : wX3_shared M a (fun r M1 => wX4_shared M1 a (fun r2 M2 => r = r2 ∧ Inv M2)) := by
  have h0 := h
  obtain ⟨hR, A, rf, v1, v2, v3, v4, v5, v6⟩ := h
  have go : (a = 0 ∨ a = 1) → wX3_shared_16 a (fun r M1 => wX4_shared M1 a (fun r2 M2 => r = r2 ∧ Inv M2)) M := fun ha => by
    have hin := (two01 a).mpr ha
    unfold wX3_shared_16 wX3_shared_37
    refine ⟨fun z => r_freeBlock (v := 1) xVol_at1 v1 v2 ?_, fun z => r_blocksShared (v := 1) v1 v2 ?_⟩
    · unfold wX4_shared
      exact t_inA (n := 1) (by omega) (fun _ => t_shared v5 v2 (fun q => absurd q z) (fun _ => ⟨rfl, h0⟩)) (fun q => absurd hin q)
    · unfold wX4_shared
      exact t_inA (n := 1) (by omega) (fun _ => t_shared v5 v2 (fun _ => ⟨rfl, h0⟩) (fun q => absurd z q)) (fun q => absurd hin q)
  unfold wX3_shared
  refine ⟨fun z => go (Or.inl z), fun z => ⟨fun z2 => go (Or.inr z2), fun z2 => ?_⟩⟩
  unfold wX4_shared
  refine k_ref (n := 2) (by omega) ?_
  exact t_inA (n := 1) (by omega) (fun q => absurd ((two01 a).mp q) (fun w => w.elim z z2)) (fun _ => fin_ref (by omega) h0)
theorem k_count {a : Int32} (h : Inv M) : wX3_count M a (fun r M1 => wX4_count M1 a (fun r2 M2 => r = r2 ∧ Inv M2)) := by
  have h0 := h
  obtain ⟨⟨hR1, ⟨nr, r1, r2, r3, r4⟩, ⟨nl, l1, l2, l3, l4⟩, hR4⟩, A, rf, v1, v2, v3, v4, v5, v6⟩ := h
  have g4 : vp_in 144 147 := (z_in (a := 144) (by omega) (by omega)).mpr (by omega)
  have g5 : vp_in 145 147 := (z_in (a := 145) (by omega) (by omega)).mpr (by omega)
  have g6 : vp_in 146 147 := (z_in (a := 146) (by omega) (by omega)).mpr (by omega)
  have t4 : (144 : Int32).toNatClampNeg = 144 := rfl
  have t5 : (145 : Int32).toNatClampNeg = 145 := rfl
  have t6 : (146 : Int32).toNatClampNeg = 146 := rfl
  have va : M 1 6 = nI (A 144) := v1.2.2.2.2.2.2.1
  have vb : M 1 7 = nI (A 145) := v1.2.2.2.2.2.2.2
  have wa := v5.2.2.2.2.2.2.1
  have wb := v5.2.2.2.2.2.2.2
  have no : ∀ x y : Int32, ¬ x = y → a = x → a = y → False := fun x y q e1 e2 => q (e1.symm.trans e2)
  have rest : ¬ a = 0 → ¬ a = 1 → ¬ a = 2 → ¬ a = 3 → ¬ a = 4 → ¬ a = 5 → ¬ a = 6 → ¬ a = 7 → ∀ r : Int32, wX4_in M a 11 16 (fun r110 M110 => (r110 = 0 → wX4_count_127 a (fun r2 M2 => r = r2 ∧ Inv M2) M110 (-9)) ∧ (¬ r110 = 0 → vp_in a 17 ∧ wX4_count_127 a (fun r2 M2 => r = r2 ∧ Inv M2) M110 (M110 54 a.toNatClampNeg))) → wX4_count M a (fun r2 M2 => r = r2 ∧ Inv M2) := by
    intro z0 z1 z2 z3 z4 z5 z6 z7 r hq
    unfold wX4_count
    exact ⟨fun q => absurd q z0, fun _ => ⟨fun q => absurd q z1, fun _ => ⟨fun q => absurd q z2, fun _ => ⟨fun q => absurd q z3, fun _ => ⟨fun q => absurd q z4, fun _ => ⟨fun q => absurd q z5, fun _ => ⟨fun q => absurd q z6, fun _ => ⟨fun q => absurd q z7, fun _ => hq⟩⟩⟩⟩⟩⟩⟩⟩
  unfold wX3_count
  refine ⟨fun z => ?_, fun z0 => ⟨fun z => ?_, fun z1 => ⟨fun z => ?_, fun z2 => ⟨fun z => ?_, fun z3 => ⟨fun z => ?_, fun z4 => ⟨fun z => ?_, fun z5 => ⟨fun z => ?_, fun z6 => ⟨fun z => ?_, fun z7 => ?_⟩⟩⟩⟩⟩⟩⟩⟩
  · refine r_inodesInUse (v := 1) v1 v2 ?_
    unfold wX4_count
    exact ⟨fun _ => t_kinds (d := false) v5 v2 ⟨rfl, h0⟩, fun q => absurd z q⟩
  · refine r_directories (v := 1) xVol_at1 v1 v2 ?_
    unfold wX4_count
    exact ⟨fun q => absurd q z0, fun _ => ⟨fun _ => t_kinds (d := true) v5 v2 ⟨rfl, h0⟩, fun q => absurd z q⟩⟩
  · refine r_blocksPointedAt (v := 1) xVol_at1 v1 v2 ?_
    unfold wX4_count
    rw [b1023]
    refine ⟨fun q => absurd q z0, fun _ => ⟨fun q => absurd q z1, fun _ => ⟨fun _ => t_blocksOf v5 v2 ⟨?_, h0⟩, fun q => absurd z q⟩⟩⟩
    exact bs_cong fun b _ => aPt_all.symm
  · unfold wX4_count
    dsimp only
    rw [t4, va, wa]
    exact ⟨fun q => absurd q z0, fun _ => ⟨fun q => absurd q z1, fun _ => ⟨fun q => absurd q z2, fun _ => ⟨fun _ => ⟨g4, rfl, h0⟩, fun q => absurd z q⟩⟩⟩⟩
  · unfold wX4_count
    dsimp only
    rw [t5, vb, wb]
    exact ⟨fun q => absurd q z0, fun _ => ⟨fun q => absurd q z1, fun _ => ⟨fun q => absurd q z2, fun _ => ⟨fun q => absurd q z3, fun _ => ⟨fun _ => ⟨g5, rfl, h0⟩, fun q => absurd z q⟩⟩⟩⟩⟩
  · unfold wX4_count
    dsimp only
    rw [t6, v4, v6]
    exact ⟨fun q => absurd q z0, fun _ => ⟨fun q => absurd q z1, fun _ => ⟨fun q => absurd q z2, fun _ => ⟨fun q => absurd q z3, fun _ => ⟨fun q => absurd q z4, fun _ => ⟨fun _ => ⟨g6, rfl, h0⟩, fun q => absurd z q⟩⟩⟩⟩⟩⟩
  · unfold wX4_count
    dsimp only
    rw [r2, r3]
    exact ⟨fun q => absurd q z0, fun _ => ⟨fun q => absurd q z1, fun _ => ⟨fun q => absurd q z2, fun _ => ⟨fun q => absurd q z3, fun _ => ⟨fun q => absurd q z4, fun _ => ⟨fun q => absurd q z5, fun _ => ⟨fun _ => ⟨rfl, h0⟩, fun q => absurd z q⟩⟩⟩⟩⟩⟩⟩
  · unfold wX4_count
    dsimp only
    rw [l2, l3]
    exact ⟨fun q => absurd q z0, fun _ => ⟨fun q => absurd q z1, fun _ => ⟨fun q => absurd q z2, fun _ => ⟨fun q => absurd q z3, fun _ => ⟨fun q => absurd q z4, fun _ => ⟨fun q => absurd q z5, fun _ => ⟨fun q => absurd q z6, fun _ => ⟨fun _ => ⟨rfl, h0⟩, fun q => absurd z q⟩⟩⟩⟩⟩⟩⟩⟩
  · have rs := rest z0 z1 z2 z3 z4 z5 z6 z7
    unfold wX3_count_130 wX3_count_132
    by_cases hv : vp_in a 17
    · obtain ⟨i, hi, rfl⟩ := vp_in_of hv (by omega)
      simp (disch := omega) only [zl 11, zl 16, z_lt]
      refine ⟨fun z => rs _ (t_inR (lo := 11) (hi := 16) (by omega) (by omega) (by omega) (fun q => absurd q.1 (by omega)) (fun _ => ⟨fun _ => ⟨rfl, h0⟩, fun q => absurd rfl q⟩)), fun z => ⟨fun q => absurd q (by omega), fun _ => ?_⟩⟩
      rw [show nI i - (10 : Int32) = nI (i - 10) from z_sub (b := 10) (by omega), z_cl (by omega)]
      refine ⟨(z_in (by omega) (by omega)).mpr (by omega), rs _ (t_inR (lo := 11) (hi := 16) (by omega) (by omega) (by omega) (fun _ => ⟨fun q => absurd q (by decide), fun _ => ⟨hv, ?_, h0⟩⟩) (fun q => absurd (by omega) q))⟩
      rw [z_cl (by omega), hR4 (i - 10) (by omega) (by omega), show 10 + (i - 10) = i by omega]
    · have out := rs (-9) (t_inX (lo := 11) (hi := 16) (by omega) (by omega) hv ⟨fun _ => ⟨rfl, h0⟩, fun q => absurd rfl q⟩)
      have h2 := fun z => hv (vp_in_iff.mpr z)
      refine ⟨fun _ => out, fun z => ⟨fun _ => out, fun z2 => ?_⟩⟩
      rw [Int32.lt_iff_toInt_lt] at z z2
      have e1 : (11 : Int32).toInt = 11 := rfl
      have e2 : (16 : Int32).toInt = 16 := rfl
      exact absurd ⟨by omega, by omega⟩ h2
end K3
