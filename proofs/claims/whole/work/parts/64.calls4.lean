/-! calls behind a check in thought -/
section K4
variable {M : xM}
theorem k_check (h : Inv M) : wX3_check M (fun r M1 => wX4_check M1 (fun r2 M2 => r = r2 ∧ Inv M2)) := by
  obtain ⟨hR, A, rf, hV⟩ := h
  have hJ := pChk_J (rf := rf) hV.2.1
  unfold wX3_check
  refine c_run hV (fun M1 k1 s1 i1 c1 => r_takeFrom (v := 1) (o := 23) xVol_at1 xVol_at23 (by omega) k1.1 (fun M2 d2 s2 => ?_))
  have e4 : M2 22 4 = nI (pChk rf A).2.length := by rw [s2 22 (by omega)]; exact k1.2.2.1
  rw [e4]
  have e51 : M2 51 = M1 51 := s2 51 (by omega)
  unfold wX4_check
  refine t_checks (SV_same i1.2.2.2.2.1 e51) hV.2.1 (by rw [e51]; exact i1.2.2.2.2.2) (fun M3 k3 o3 => ⟨rfl, ?_⟩)
  exact inv_fin hR (cOff_tr c1 (cOff_s s2 (by omega))) (dOff_r o3) d2 hJ.1.1 hV.2.2.1 (by rw [s2 0 (by omega)]; exact i1.2.2.2.1) k3.1 k3.2.2.1
theorem k_questions {a : Int32} (h : Inv M) : wX3_questions M a (fun r M1 => wX4_questions M1 a (fun r2 M2 => r = r2 ∧ Inv M2)) := by
  have h0 := h
  obtain ⟨hR, A, rf, hV⟩ := h
  have hl := pChk_len rf A
  unfold wX3_questions wX3_questions_53
  refine k_outA (N := 17) (by omega) (fun ha => ?_) (fun ha => ?_)
  · refine c_run hV (fun M1 k1 s1 i1 c1 => ?_)
    have ref : ∀ r : Int32, ((a = 0 → r = nI (pChk rf A).2.length) ∧ (¬ a = 0 → r = nI (qc (pChk rf A).2 a))) → wX4_questions M1 a (fun r2 M2 => r = r2 ∧ Inv M2) := fun r hr => by
      unfold wX4_questions
      refine t_inA (n := 16) (by omega) (fun _ => r_thinks i1.2.2.2.2.1 hV.2.1 i1.2.2.2.2.2 (fun M2 s2 t2 a2 q2 d2 => ?_)) (fun q => absurd ha q)
      have fin := inv_q hR c1 i1 d2 s2 t2
      exact t_manyOf a2 q2 hl (fun z => ⟨hr.1 z, fin⟩) (fun z => ⟨hr.2 z, fin⟩)
    refine ⟨fun z => r_askedFor (c := 22) k1.2.2.1 k1.2.2.2.2 hl (ref _ ⟨fun q => absurd q z, fun _ => rfl⟩), fun z => ?_⟩
    have e4 : M1 22 4 = nI (pChk rf A).2.length := k1.2.2.1
    rw [e4]
    exact ref _ ⟨fun _ => rfl, fun q => absurd z q⟩
  · unfold wX4_questions
    refine k_ref (n := 2) (by omega) ?_
    exact t_inA (n := 16) (by omega) (fun q => absurd q ha) (fun _ => fin_ref (by omega) h0)
theorem t_inLen {x : Int32} {len : Nat} {P R : xM → Prop} (hl : len < 1000) (h1 : vp_in x len → P M) (h0 : ¬ vp_in x len → R M) : wX4_in M x 0 (nI len - 1) (fun r M' => (¬ r = 0 → P M') ∧ (r = 0 → R M')) := by
  rcases Nat.eq_zero_or_pos len with e | e
  · subst e
    have hn : ¬ vp_in x 0 := fun q => by have := vp_in_iff.mp q; omega
    unfold wX4_in wX4_in_14 wX4_in_15
    have o : (0 &&& 1 = (0 : Int32)) ∧ ((¬ (0 : Int32) = 0 → P M) ∧ ((0 : Int32) = 0 → R M)) := ⟨rfl, fun q => absurd rfl q, fun _ => h0 hn⟩
    refine ⟨fun _ => o, fun z => ⟨fun _ => o, fun z2 => ?_⟩⟩
    have e1 : nI 0 - 1 = (-1 : Int32) := by decide
    rw [e1, Int32.lt_iff_toInt_lt] at z2
    rw [Int32.lt_iff_toInt_lt] at z
    have e2 : (-1 : Int32).toInt = -1 := rfl
    have e3 : (0 : Int32).toInt = 0 := rfl
    omega
  · rw [show nI len - 1 = nI (len - 1) from z_sub (b := 1) (by omega)]
    refine t_inA (n := len - 1) (by omega) (fun q => h1 ?_) (fun q => h0 ?_)
    · rw [show len - 1 + 1 = len by omega] at q; exact q
    · rw [show len - 1 + 1 = len by omega] at q; exact q
theorem k_question {a b : Int32} (h : Inv M) : wX3_question M a b (fun r M1 => wX4_question M1 a b (fun r2 M2 => r = r2 ∧ Inv M2)) := by
  have h0 := h
  obtain ⟨hR, A, rf, hV⟩ := h
  have hl := pChk_len rf A
  unfold wX3_question wX3_question_90
  refine k_outA (N := 3) (by omega) (fun hb => ?_) (fun hb => ?_)
  · refine c_run hV (fun M1 k1 s1 i1 c1 => ?_)
    have e4 : M1 22 4 = nI (pChk rf A).2.length := k1.2.2.1
    have q1 : qAt M1 30 31 32 (pChk rf A).2 := k1.2.2.2.2
    generalize hq : (pChk rf A).2 = q at e4 q1 hl
    have i1' : Inv M1 := inv_q hR c1 i1 dOff_rf i1.2.2.2.2.1 i1.2.2.2.2.2
    rw [e4]
    refine k_outA (N := q.length) (by omega) (fun ha => ?_) (fun ha => ?_)
    · obtain ⟨i, hi, rfl⟩ := vp_in_of ha (by omega)
      obtain ⟨u1, u2, u3⟩ := q1 i hi
      have g1 : i < 180 := by omega
      have g2 : i < 400 := by omega
      rw [z_cl (by omega), z_in (by omega) (by omega), u1, u2, u3]
      have ref : ∀ r : Int32, (b = 0 → r = nI (q.getD i (0, 0, 0)).1) → (b = 1 → r = nI (q.getD i (0, 0, 0)).2.1) → (¬ b = 0 → ¬ b = 1 → r = nI (q.getD i (0, 0, 0)).2.2) → wX4_question M1 (nI i) b (fun r2 M2 => r = r2 ∧ Inv M2) := fun r r0 r1 r2 => by
        unfold wX4_question wX4_question_73
        refine t_inA (n := 2) (by omega) (fun _ => r_thinks i1.2.2.2.2.1 hV.2.1 i1.2.2.2.2.2 (fun M2 s2 t2 a2 q2 d2 => ?_)) (fun q => absurd hb q)
        have fin := inv_q hR c1 i1 d2 s2 t2
        rw [hq] at a2 q2
        obtain ⟨w1, w2, w3⟩ := q2 i hi
        rw [a2]
        refine t_inLen (by omega) (fun _ => ?_) (fun q => absurd ha q)
        rw [z_cl (by omega), z_in (by omega) (by omega), w1, w2, w3]
        exact ⟨fun z => ⟨fun z1 => ⟨g2, r2 z z1, fin⟩, fun z1 => ⟨g2, r1 z1, fin⟩⟩, fun z => ⟨g2, r0 z, fin⟩⟩
      refine ⟨fun z => ⟨fun z1 => ⟨g1, ref _ (fun q => absurd q z) (fun q => absurd q z1) (fun _ _ => rfl)⟩, fun z1 => ⟨g1, ref _ (fun q => absurd q z) (fun _ => rfl) (fun _ q => absurd z1 q)⟩⟩, fun z => ⟨g1, ref _ (fun _ => rfl) (fun q => absurd (z.symm.trans q) (by decide)) (fun q => absurd z q)⟩⟩
    · unfold wX4_question
      refine k_ref (n := 1) (by omega) ?_
      have e51 : refd M1 1 51 = M1 51 := xup_n (by omega)
      refine t_inA (n := 2) (by omega) (fun _ => r_thinks (SV_same i1.2.2.2.2.1 e51) hV.2.1 (by rw [e51]; exact i1.2.2.2.2.2) (fun M2 s2 t2 a2 q2 d2 => ?_)) (fun q => absurd hb q)
      rw [hq] at a2
      rw [a2]
      refine t_inLen (by omega) (fun q => absurd q ha) (fun _ => t_ref (n := 1) (by omega) ⟨rfl, ?_⟩)
      -- the refusal is counted on both sides
      have base := inv_ref (n := 1) i1'
      obtain ⟨⟨b1, b2, b3, b4⟩, -⟩ := base
      have e2 : ∀ p, p ≠ 50 → p ≠ 51 → p ≠ 53 → p ≠ 56 → p ≠ 57 → p ≠ 58 → M2 p = refd M1 1 p := d2.1
      have f2 : ∀ p, p ≠ 50 → p ≠ 51 → p ≠ 53 → p ≠ 56 → p ≠ 57 → p ≠ 58 → xup M2 54 (10 + 1) (M2 54 (10 + 1) + 1) p = xup (refd M1 1) 54 (10 + 1) (refd M1 1 54 (10 + 1) + 1) p := fun p x1 x2 x3 x4 x5 x6 => by
        by_cases e : p = 54
        · subst e
          rw [xup_at, xup_at, e2 54 (by omega) (by omega) (by omega) (by omega) (by omega) (by omega)]
        · rw [xup_n e, xup_n e, e2 p x1 x2 x3 x4 x5 x6]
      have g2 : ∀ j, j ≠ 8 → j ≠ 9 → j ≠ 10 → j ≠ 14 → j ≠ 17 → xup M2 54 (10 + 1) (M2 54 (10 + 1) + 1) 50 j = xup (refd M1 1) 54 (10 + 1) (refd M1 1 54 (10 + 1) + 1) 50 j := fun j x1 x2 x3 x4 x5 => by
        rw [xup_n (by omega), xup_n (by omega)]; exact d2.2 j x1 x2 x3 x4 x5
      have v := i1
      refine ⟨IR_eq ⟨b1, b2, b3, b4⟩ ⟨fun p hp => f2 p (by omega) (by omega) (by omega) (by omega) (by omega) (by omega), ?_, ?_, ?_, g2 4 (by omega) (by omega) (by omega) (by omega) (by omega), g2 7 (by omega) (by omega) (by omega) (by omega) (by omega), g2 16 (by omega) (by omega) (by omega) (by omega) (by omega)⟩, A, rf, ?_, v.2.1, v.2.2.1, ?_, SV_same s2 (xup_n (by omega)), ?_⟩
      · rw [f2 0 (by omega) (by omega) (by omega) (by omega) (by omega) (by omega)]
      · rw [f2 0 (by omega) (by omega) (by omega) (by omega) (by omega) (by omega)]
      · rw [f2 0 (by omega) (by omega) (by omega) (by omega) (by omega) (by omega)]
      · refine CV_same v.1 fun d hd => ?_
        rw [f2 _ (by omega) (by omega) (by omega) (by omega) (by omega) (by omega), xup_n (by omega)]
        exact xup_n (by omega)
      · rw [f2 0 (by omega) (by omega) (by omega) (by omega) (by omega) (by omega), xup_n (by omega)]
        exact v.2.2.2.1
      · rw [xup_n (by omega)]; exact t2
  · unfold wX4_question
    refine k_ref (n := 2) (by omega) ?_
    exact t_inA (n := 2) (by omega) (fun q => absurd q hb) (fun _ => fin_ref (by omega) h0)
def qb (q : aQ) : Nat → Int32
  | 0 => 0
  | j + 1 => qb q j ||| ((1 : Int32) <<< (nI (q.getD j (0, 0, 0)).1 &&& 31))
theorem k_reasons (h : Inv M) : wX3_reasons M (fun r M1 => wX4_reasons M1 (fun r2 M2 => r = r2 ∧ Inv M2)) := by
  obtain ⟨hR, A, rf, hV⟩ := h
  have hl := pChk_len rf A
  unfold wX3_reasons
  refine c_run hV (fun M1 k1 s1 i1 c1 => ?_)
  have e4 : M1 22 4 = nI (pChk rf A).2.length := k1.2.2.1
  have q1 : qAt M1 30 31 32 (pChk rf A).2 := k1.2.2.2.2
  generalize hq : (pChk rf A).2 = q at e4 q1 hl
  refine z_loop (P := fun n j => lX3_reasons_19 _ n M1 (qb q j) (nI j)) q.length (fun n => ?_) (fun n j hj hn => ?_)
  · unfold lX3_reasons_19
    dsimp only
    rw [e4]
    refine ⟨fun _ => ?_, fun z => absurd ((z_le (by omega) (by omega)).mpr (Nat.le_refl _)) z⟩
    unfold wX4_reasons
    refine r_thinks i1.2.2.2.2.1 hV.2.1 i1.2.2.2.2.2 (fun M2 s2 t2 a2 q2 d2 => ?_)
    have fin := inv_q hR c1 i1 d2 s2 t2
    rw [hq] at a2 q2
    refine z_loop (P := fun n j => lX4_reasons_8 _ n M2 (qb q j) (nI j)) q.length (fun n => ?_) (fun n j hj hn => ?_)
    · unfold lX4_reasons_8
      dsimp only
      rw [a2]
      exact ⟨fun _ => ⟨rfl, fin⟩, fun z => absurd ((z_le (by omega) (by omega)).mpr (Nat.le_refl _)) z⟩
    · have w := (q2 j hj).1
      unfold lX4_reasons_8
      dsimp only
      rw [a2]
      simp (disch := omega) only [z_le, z_in, z_cl, w, nI_1]
      exact ⟨fun z => absurd z (by omega), fun _ => ⟨by omega, hn⟩⟩
  · have w := (q1 j hj).1
    unfold lX3_reasons_19
    dsimp only
    rw [e4]
    simp (disch := omega) only [z_le, z_in, z_cl, w, nI_1]
    exact ⟨fun z => absurd z (by omega), fun _ => ⟨by omega, hn⟩⟩
theorem k_sound (h : Inv M) : wX3_sound M (fun r M1 => wX4_sound M1 (fun r2 M2 => r = r2 ∧ Inv M2)) := by
  obtain ⟨hR, A, rf, hV⟩ := h
  unfold wX3_sound wX3_sound_30
  refine c_run hV (fun M1 k1 s1 i1 c1 => ?_)
  have e4 : M1 22 4 = nI (pChk rf A).2.length := k1.2.2.1
  rw [e4]
  have ref : ∀ r : Int32, (¬ nI (pChk rf A).2.length = 0 → r = 0) → (nI (pChk rf A).2.length = 0 → r = 1) → wX4_sound M1 (fun r2 M2 => r = r2 ∧ Inv M2) := fun r r0 r1 => by
    unfold wX4_sound wX4_sound_16
    refine r_thinks i1.2.2.2.2.1 hV.2.1 i1.2.2.2.2.2 (fun M2 s2 t2 a2 q2 d2 => ?_)
    have fin := inv_q hR c1 i1 d2 s2 t2
    rw [a2]
    exact ⟨fun z => ⟨r0 z, fin⟩, fun z => ⟨r1 z, fin⟩⟩
  exact ⟨fun z => ref 0 (fun _ => rfl) (fun q => absurd q z), fun z => ref 1 (fun q => absurd z q) (fun _ => rfl)⟩
theorem k_slotThen {a b : Int32} (h : Inv M) : wX3_slotThen M a b (fun r M1 => wX4_slotThen M1 a b (fun r2 M2 => r = r2 ∧ Inv M2)) := by
  have h0 := h
  obtain ⟨hR, A, rf, hV⟩ := h
  unfold wX3_slotThen wX3_slotThen_18
  refine k_outB (N := 10) (by omega) (fun ha => k_outA (N := 6) (by omega) (fun hb => ?_) (fun hb => ?_)) (fun ha => ?_)
  · refine c_run hV (fun M1 k1 s1 i1 c1 => ?_)
    obtain ⟨i, hi, rfl⟩ := vp_in_of ha (by omega)
    obtain ⟨k, hk, rfl⟩ := vp_in_of hb (by omega)
    have v : M1 28 (6 * i + k) = eC ((pChk rf A).1 (60 + (6 * i + k))) := k1.1.2.2.2.2.1 (6 * i + k) (by omega)
    simp (disch := omega) only [zl 6, z_mul, z_add, z_in, z_cl, v]
    refine ⟨by omega, ?_⟩
    unfold wX4_slotThen wX4_slotThen_16
    refine t_isInodeB (fun _ => t_inA (n := 5) (by omega) (fun _ => ?_) (fun q => absurd hb q)) (fun q => absurd ha q)
    refine r_think i1.2.2.2.2.1 hV.2.1 i1.2.2.2.2.2 (fun M2 k2 f2 d2 => t_slotOf k2.1 k2.2.1 hi hk (r_back f2 (fun M3 s3 t3 f3 o3 => ⟨rfl, inv_q hR c1 i1 (dOff_tr d2 (dOff_51 o3)) s3 t3⟩)))
  · unfold wX4_slotThen wX4_slotThen_16
    refine k_ref (n := 1) (by omega) ?_
    exact t_isInodeB (fun _ => t_inA (n := 5) (by omega) (fun q => absurd q hb) (fun _ => fin_ref (by omega) h0)) (fun q => absurd ha q)
  · unfold wX4_slotThen wX4_slotThen_16
    refine k_ref (n := 1) (by omega) ?_
    exact t_isInodeB (fun q => absurd q ha) (fun _ => fin_ref (by omega) h0)
theorem k_pointerThen {a b : Int32} (h : Inv M) : wX3_pointerThen M a b (fun r M1 => wX4_pointerThen M1 a b (fun r2 M2 => r = r2 ∧ Inv M2)) := by
  have h0 := h
  obtain ⟨hR, A, rf, hV⟩ := h
  unfold wX3_pointerThen wX3_pointerThen_17
  refine k_outB (N := 10) (by omega) (fun ha => k_outA (N := 3) (by omega) (fun hb => ?_) (fun hb => ?_)) (fun ha => ?_)
  · refine c_run hV (fun M1 k1 s1 i1 c1 => ?_)
    obtain ⟨i, hi, rfl⟩ := vp_in_of ha (by omega)
    obtain ⟨k, hk, rfl⟩ := vp_in_of hb (by omega)
    have v : M1 27 (3 * i + k) = tC ((pChk rf A).1 (30 + (3 * i + k))) := k1.1.2.2.2.1 (3 * i + k) (by omega)
    simp (disch := omega) only [zl 3, z_mul, z_add, z_in, z_cl, v]
    refine ⟨by omega, ?_⟩
    unfold wX4_pointerThen wX4_pointerThen_16
    refine t_isInodeB (fun _ => t_inA (n := 2) (by omega) (fun _ => ?_) (fun q => absurd hb q)) (fun q => absurd ha q)
    refine r_think i1.2.2.2.2.1 hV.2.1 i1.2.2.2.2.2 (fun M2 k2 f2 d2 => t_pointerOf k2.1 k2.2.1 hi hk (r_back f2 (fun M3 s3 t3 f3 o3 => ⟨rfl, inv_q hR c1 i1 (dOff_tr d2 (dOff_51 o3)) s3 t3⟩)))
  · unfold wX4_pointerThen wX4_pointerThen_16
    refine k_ref (n := 1) (by omega) ?_
    exact t_isInodeB (fun _ => t_inA (n := 2) (by omega) (fun q => absurd q hb) (fun _ => fin_ref (by omega) h0)) (fun q => absurd ha q)
  · unfold wX4_pointerThen wX4_pointerThen_16
    refine k_ref (n := 1) (by omega) ?_
    exact t_isInodeB (fun q => absurd q ha) (fun _ => fin_ref (by omega) h0)
theorem k_second (h : Inv M) : wX3_second M (fun r M1 => wX4_second M1 (fun r2 M2 => r = r2 ∧ Inv M2)) := by
  obtain ⟨hR, A, rf, hV⟩ := h
  have hJ := pChk_J (rf := rf) hV.2.1
  unfold wX3_second
  refine c_run hV (fun M1 k1 s1 i1 c1 => ?_)
  rw [show M1 0 11 = bs rf 17 from i1.2.2.2.1]
  refine r_run (c := 34) (o := 23) (Or.inr rfl) xVol_at23 (by omega) (by omega) hV.2.2.1 hJ.1.1 (pChk_hJ hJ.1.1) k1.1 (fun M2 k2 s2 => ?_)
  have e4 : M2 34 4 = nI (pChk rf (pChk rf A).1).2.length := k2.2.2.1
  rw [e4]
  have c2 : cOff M M2 := cOff_tr c1 (cOff_s s2 (by omega))
  have i2 : IV M2 A rf := IV_c i1 fun p hp => s2 p (by omega)
  unfold wX4_second
  refine r_think i2.2.2.2.2.1 hV.2.1 i2.2.2.2.2.2 (fun M3 k3 f3 d3 => ?_)
  refine r_chk k3.1 k3.2.1 k3.2.2.1 f3 (fun M4 k4 f4 d4 => r_back f4 (fun M5 s5 t5 f5 o5 => ⟨rfl, inv_q hR c2 i2 (dOff_tr (dOff_tr d3 d4) (dOff_51 o5)) s5 t5⟩))
/-- what is told of an inode behind a check -/
def tv (B : Nat → Nat) (i : Nat) (b : Int32) : Int32 :=
  if b = 0 then nI (B i) else if b = 1 then nI (B (10 + i)) else if b = 2 then nI (B (20 + i)) else
  if b = 3 then (if B i = 0 then -9 else if fa_first (fun d => aS B 0 d i) 10 < 10 then nI (fa_first (fun d => aS B 0 d i) 10) else -9) else
  if b = 4 then (if aDir B i = true then nI (fb_ct (aS B i 10) 10) - 1 else -9) else nI (aSz B i)
theorem t_thenOf {B : Nat → Nat} {i : Nat} {b : Int32} {Q : Int32 → xM → Prop} (hS : SV M B) (hO : aOK B) (hZ : aZ B 10) (hi : i < 10) (hq : Q (tv B i b) M) : wX4_thenOf M (nI i) b Q := by
  have wa := hS.1 i hi
  have wb := hS.2.1 i hi
  have wc := hS.2.2.1 i hi
  have g : i < 147 := by omega
  have g1 : 10 + i < 147 := by omega
  have g2 : 20 + i < 147 := by omega
  unfold wX4_thenOf wX4_thenOf_99
  rw [show (10 : Int32) + nI i = nI (10 + i) from z_add 10 i, show (20 : Int32) + nI i = nI (20 + i) from z_add 20 i, show (0 : Int32) + nI i = nI i by rw [show (0 : Int32) = nI 0 from rfl, z_add, Nat.zero_add], z_cl (by omega), z_cl (by omega), z_cl (by omega), z_in (by omega) (by omega), z_in (by omega) (by omega), z_in (by omega) (by omega), wa, wb, wc]
  unfold tv at hq
  refine ⟨fun z => ?_, fun z0 => ?_⟩
  · rw [if_pos z] at hq; exact ⟨g, hq⟩
  rw [if_neg z0] at hq
  refine ⟨fun z => ?_, fun z1 => ?_⟩
  · rw [if_pos z] at hq; exact ⟨g1, hq⟩
  rw [if_neg z1] at hq
  refine ⟨fun z => ?_, fun z2 => ?_⟩
  · rw [if_pos z] at hq; exact ⟨g2, hq⟩
  rw [if_neg z2] at hq
  refine ⟨fun z => ?_, fun z3 => ?_⟩
  · rw [if_pos z] at hq; exact t_depthOf hS hO hi (hZ i hi) hq
  rw [if_neg z3] at hq
  refine ⟨fun z => ?_, fun z4 => ?_⟩
  · rw [if_pos z] at hq
    refine t_isDirectory hS hO hi ⟨fun zd => ?_, fun zd => ?_⟩
    · rw [if_neg (by rw [(bI_0 _).mp zd]; decide)] at hq; exact hq
    · rw [if_pos (bI_ne zd)] at hq
      refine t_reachedAll hS hO hi ?_
      rw [bs_one (n := 10) (by omega) hi, bs_andn _ _ (by omega)]
      refine t_countOf (by omega) ?_
      have hc := ct_but (p := aS B i 10) hi aS_0
      rw [← hc, ← nI_1] at hq
      rw [show nI (fb_ct (fun k => aS B i 10 k && !decide (k = i)) 10) + 1 - 1 = nI (fb_ct (fun k => aS B i 10 k && !decide (k = i)) 10) by rw [nI_1]; exact z_sub (b := 1) (by omega)] at hq
      exact hq
  · rw [if_neg z4] at hq
    exact t_blocksBelow hS hO hi hq
theorem k_then {a b : Int32} (h : Inv M) : wX3_then M a b (fun r M1 => wX4_then M1 a b (fun r2 M2 => r = r2 ∧ Inv M2)) := by
  have h0 := h
  obtain ⟨hR, A, rf, hV⟩ := h
  have hJ := pChk_J (rf := rf) hV.2.1
  unfold wX3_then
  refine k_outA (N := 10) (by omega) (fun ha => k_outA (N := 6) (by omega) (fun hb => ?_) (fun hb => ?_)) (fun ha => ?_)
  · refine c_run hV (fun M1 k1 s1 i1 c1 => ?_)
    obtain ⟨i, hi, rfl⟩ := vp_in_of ha (by omega)
    have ref : ∀ r : Int32, r = tv (pChk rf A).1 i b → wX4_then M1 (nI i) b (fun r2 M2 => r = r2 ∧ Inv M2) := fun r hr => by
      unfold wX4_then
      refine t_isInodeA (fun _ => t_inA (n := 5) (by omega) (fun _ => ?_) (fun q => absurd hb q)) (fun q => absurd ha q)
      exact r_think i1.2.2.2.2.1 hV.2.1 i1.2.2.2.2.2 (fun M2 k2 f2 d2 => t_thenOf k2.1 k2.2.1 hJ.2 hi (r_back f2 (fun M3 s3 t3 f3 o3 => ⟨hr, inv_q hR c1 i1 (dOff_tr d2 (dOff_51 o3)) s3 t3⟩)))
    have hC : CV M1 23 (pChk rf A).1 := k1.1
    generalize (pChk rf A).1 = B at hC ref hJ
    have va : M1 24 i = nI (B i) := hC.1 i hi
    have vb : M1 25 i = nI (B (10 + i)) := hC.2.1 i hi
    have vc : M1 26 i = nI (B (20 + i)) := hC.2.2.1 i hi
    rw [z_cl (by omega), z_in (by omega) (by omega), va, vb, vc]
    unfold tv at ref
    refine ⟨fun z => ⟨hi, ref _ (by rw [if_pos z])⟩, fun z0 => ⟨fun z => ⟨hi, ref _ (by rw [if_neg z0, if_pos z])⟩, fun z1 => ⟨fun z => ⟨hi, ref _ (by rw [if_neg z0, if_neg z1, if_pos z])⟩, fun z2 => ⟨fun z => r_depthOf (v := 23) hC hJ.1.1 hi (ref _ (by rw [if_neg z0, if_neg z1, if_neg z2, if_pos z])), fun z3 => ⟨fun z => r_inodesBelow (v := 23) hC hJ.1.1 hi (ref _ (by rw [if_neg z0, if_neg z1, if_neg z2, if_neg z3, if_pos z])), fun z4 => r_blocksBelow (v := 23) hC hJ.1.1 hi (ref _ ?_)⟩⟩⟩⟩⟩
    rw [if_neg z0, if_neg z1, if_neg z2, if_neg z3, if_neg z4]
    rfl
  · unfold wX4_then
    refine k_ref (n := 2) (by omega) ?_
    exact t_isInodeA (fun _ => t_inA (n := 5) (by omega) (fun q => absurd q hb) (fun _ => fin_ref (by omega) h0)) (fun q => absurd ha q)
  · unfold wX4_then
    refine k_ref (n := 1) (by omega) ?_
    exact t_isInodeA (fun q => absurd q ha) (fun _ => fin_ref (by omega) h0)
end K4
