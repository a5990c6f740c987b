/-! the reference: parents, links, maps, a check -/
section RD
variable {M : xM} {rf : Nat → Bool} {T : aT}
theorem pIter_fix {f : aT → Nat → aT} (h : ∀ T k, f T k = T) (T : aT) : ∀ n, pIter f T n = T
  | 0 => rfl
  | n + 1 => by
    show f (pIter f T n) n = T
    rw [h, pIter_fix h T n]
theorem SK_up {q x : Nat} {M' : xM} (h : SK M rf T) (hS : SV M' (aUp T.1 q x)) (hO : aOK (aUp T.1 q x)) (hp : ∀ p, p ≠ 51 → M' p = M p) (h6 : M' 51 146 = M 51 146) : SK M' rf (aUp T.1 q x, T.2) := SK_set h hS hO hp h6
theorem t_parents {R : aT} {Q : xM → Prop} (h : SK M rf R) (hJ : aJ R.1 ∧ aAP R.1) (hl : R.2.length < 300) (hq : ∀ M', SK M' rf (pIter (pPar rf) R 10) → rOff M M' → Q M') : ∃ n, lX4_connects_87 Q n M 0 := by
  have key := z_loop (P := fun n i => ∀ M', SK M' rf (pIter (pPar rf) R i) → rOff M M' → lX4_connects_87 Q n M' (nI i)) 10 (fun n M' k1 s1 => ?_) (fun n i hi hn M' k1 s1 => ?_)
  · obtain ⟨n, hn⟩ := key
    exact ⟨n, hn M h rOff_rf⟩
  · unfold lX4_connects_87 wX4_connects_171
    simp (disch := omega) only [zl 10, z_le, Nat.le_refl, true_implies, not_true, false_implies, and_true]
    exact hq M' k1 s1
  · have hl := pIter_len (pPar_len rf) R i
    have hstep : pIter (pPar rf) R (i + 1) = pPar rf (pIter (pPar rf) R i) i := rfl
    have hj := pIter_P (P := fun T => aJ T.1 ∧ aAP T.1) (N := 10) (f := pPar rf) (fun T k hk h => ⟨aE_J (pPar_E hk) (pPar_ok h.1.1 hk) h.1, aE_AP (pPar_E hk) h.2⟩) i (by omega) hJ
    have hex : rf 12 = true → pIter (pPar rf) R 10 = pIter (pPar rf) R i := fun z => by
      have hf : ∀ T k, pPar rf T k = T := fun T k => by unfold pPar; rw [if_neg (fun q => by rw [z] at q; exact absurd q.2.2 (by decide))]
      rw [pIter_fix hf, pIter_fix hf]
    rw [hstep] at hn
    generalize pIter (pPar rf) R i = T at k1 hl hn hj hex
    have e1 : nI i + 1 = nI (i + 1) := nI_1 i
    have v := k1.1.2.2.1 i hi
    have b := k1.2.1.2.2.1 i hi
    have g : 20 + i < 147 := by omega
    unfold lX4_connects_87 wX4_connects_171
    dsimp only
    simp (disch := omega) only [zl 10, z_le]
    refine ⟨fun z => absurd z (by omega), fun _ => t_isRefused (r := 12) k1 (by omega) ⟨fun z => hq M' (by rw [hex (bI_ne z)]; exact k1) s1, fun z => ?_⟩⟩
    have hr := (bI_0 _).mp z
    have half : ∀ d : Nat, d < 10 → (aDir T.1 i = true → pDue T.1 i = d) → wX4_connects_127 Q (lX4_connects_87 Q n) M' (nI i) (nI d) := by
      intro d hd hdue
      unfold wX4_connects_127 wX4_connects_165
      refine t_isDirectory k1.1 k1.2.1 hi ⟨fun z2 => ?_, fun z2 => ?_⟩
      · have hp : pPar rf T i = T := by unfold pPar; rw [if_neg (fun q => by rw [(bI_0 _).mp z2] at q; exact absurd q.1 (by decide))]
        rw [hp] at hn
        rw [e1]; exact hn M' k1 s1
      · have hdir := bI_ne z2
        have due := hdue hdir
        simp (disch := omega) only [zl 20, zl 147, z_add, z_in, z_cl, v, g, true_and, z_eq]
        refine ⟨fun z3 => ?_, fun z3 => ?_⟩
        · have hp : pPar rf T i = T := by unfold pPar; rw [if_neg (fun q => q.2.1 (z3.trans due.symm))]
          rw [hp] at hn
          rw [e1]; exact hn M' k1 s1
        · have hp : pPar rf T i = (aUp T.1 (20 + i) d, T.2 ++ [(12, i, T.1 (20 + i))]) := by unfold pPar; rw [due, if_pos ⟨hdir, z3, hr⟩]
          rw [hp] at hn
          unfold wX4_becomes
          simp (disch := omega) only [zl 147, z_in, z_cl, v, g, true_and]
          have k2 : SK (xup M' 51 (20 + i) (nI d)) rf (aUp T.1 (20 + i) d, T.2) := SK_set k1 (SV_n k1.1 (by omega)) (aOK_par k1.2.1 hi hd) (fun q hq => xup_n hq) (by rw [xup_at, upd, if_neg (by omega)])
          refine t_asks (r := 12) k2 (by show T.2.length < 400; omega) (fun M3 k3 o3 _ => ?_)
          rw [e1]
          exact hn M3 k3 (rOff_tr (rOff_tr s1 (rOff_s (by omega))) o3)
    unfold wX4_connects_115
    refine ⟨fun z2 => half 0 (by omega) (fun _ => ?_), fun z2 => t_entryTo k1.1 k1.2.1 (by omega) ?_⟩
    · have : i = 0 := (z_eq (b := 0) (by omega) (by omega)).mp z2
      unfold pDue; rw [if_pos this]
    · have i0 : i ≠ 0 := fun q => z2 (by rw [q]; rfl)
      by_cases zc : fa_first (aEnt T.1 i) 60 < 60
      · rw [if_pos zc]
        have nm : ¬ nI (fa_first (aEnt T.1 i) 60) = (-1 : Int32) := by rw [show (-1 : Int32) = -nI 1 from rfl, z_neq (by omega) (by omega) (by omega)]; exact id
        refine ⟨fun _ => t_entryTo k1.1 k1.2.1 (by omega) ?_, fun q => absurd q nm⟩
        rw [if_pos zc, show nI (fa_first (aEnt T.1 i) 60) / 6 = nI (fa_first (aEnt T.1 i) 60 / 6) from z_div (d := 6) (by omega) (by omega) (by omega)]
        refine half _ (by omega) (fun _ => ?_)
        unfold pDue; rw [if_neg i0, if_pos zc]
      · rw [if_neg zc]
        refine ⟨fun q => absurd rfl q, fun _ => half 0 (by omega) (fun hd => ?_)⟩
        obtain ⟨k, hk, he⟩ := aS_ent hj.1.1 (hj.2 i hi hd) i0
        exact absurd he (by
          have hn60 : fa_first (aEnt T.1 i) 60 = 60 := by have := fa_first_le (aEnt T.1 i) 60; omega
          rw [fa_first_no (aEnt T.1 i) 60 k (by omega)]; decide)
theorem t_connects {R : aT} {Q : xM → Prop} (h : SK M rf R) (hJ : aJ R.1) (hl : R.2.length < 200) (hq : ∀ M', SK M' rf (pIter (pPar rf) (pConns R 10) 10) → rOff M M' → Q M') : wX4_connects M Q := by
  unfold wX4_connects
  have hc := pConns_J 10 R hJ
  have hln : ∀ n T, (pConns T n).2.length ≤ T.2.length + 2 * n := by
    intro n
    induction n with
    | zero => intro T; exact Nat.le_refl _
    | succ n ih =>
      intro T
      have h1 := ih (pConn T)
      have h2 := pConn_len T
      show (pConns (pConn T) n).2.length ≤ _
      omega
  have l2 := hln 10 R
  refine t_lone h.1 hJ ⟨10 + 1, t_conns 10 R M h hJ (fb_ct_le _ 10) (by omega) (fun M1 k1 o1 => ?_)⟩
  exact t_parents k1 ⟨hc.1, aAP_of (hc.2 (fb_ct_le _ 10))⟩ (by omega) (fun M2 k2 o2 => hq M2 k2 (rOff_tr o1 o2))
theorem t_countsLinks {R : aT} {Q : xM → Prop} (h : SK M rf R) (hl : R.2.length < 300) (hq : ∀ M', SK M' rf (pIter (pCnt rf) R 10) → rOff M M' → Q M') : wX4_countsLinks M Q := by
  unfold wX4_countsLinks
  have key := z_loop (P := fun n i => ∀ M', SK M' rf (pIter (pCnt rf) R i) → rOff M M' → lX4_countsLinks_2 Q n M' (nI i)) 10 (fun n M' k1 s1 => ?_) (fun n i hi hn M' k1 s1 => ?_)
  · obtain ⟨n, hn⟩ := key
    exact ⟨n, hn M h rOff_rf⟩
  · unfold lX4_countsLinks_2
    simp (disch := omega) only [zl 10, z_le, Nat.le_refl, true_implies, not_true, false_implies, and_true]
    exact hq M' k1 s1
  · have hl := pIter_len2 (pCnt_len rf) R i
    have hstep : pIter (pCnt rf) R (i + 1) = pCnt rf (pIter (pCnt rf) R i) i := rfl
    rw [hstep] at hn
    generalize pIter (pCnt rf) R i = T at k1 hl hn
    have e1 : nI i + 1 = nI (i + 1) := nI_1 i
    have v := k1.1.1 i hi
    have b := k1.2.1.1 i hi
    have g : i < 147 := by omega
    have half : ∀ M2, SK M2 rf (pLone T i) → rOff M M2 → (pLone T i).2.length < 390 → wX4_countsLinks_49 Q (lX4_countsLinks_2 Q n) M2 (nI i) := by
      intro M2 k2 s2 l2
      have hpc : pCnt rf T i = pLink rf (pLone T i) i := rfl
      rw [hpc] at hn
      generalize pLone T i = T2 at k2 l2 hn
      have v1 := k2.1.2.1 i hi
      have b1 := k2.2.1.2.1 i hi
      have b2 := ct_le60 (aEnt T2.1 i)
      have g1 : 10 + i < 147 := by omega
      have fin : wX4_countsLinks_69 Q (lX4_countsLinks_2 Q n) M2 (nI i) (nI (pNum T2.1 i)) := by
        have bn : pNum T2.1 i < 10 := by unfold pNum; split <;> omega
        unfold wX4_countsLinks_69 wX4_countsLinks_108
        refine t_isRefused (r := 14) k2 (by omega) ⟨fun z => ?_, fun z => ?_⟩
        · have hp : pLink rf T2 i = T2 := by unfold pLink; rw [if_neg (fun q => by rw [bI_ne z] at q; exact absurd q.2 (by decide))]
          rw [hp] at hn
          rw [e1]; exact hn M2 k2 s2
        · have hr := (bI_0 _).mp z
          simp (disch := omega) only [zl 10, zl 147, z_add, z_in, z_cl, v1, g1, true_and, z_eq]
          refine ⟨fun z3 => ?_, fun z3 => ?_⟩
          · have hp : pLink rf T2 i = T2 := by unfold pLink; rw [if_neg (fun q => q.1 z3)]
            rw [hp] at hn
            rw [e1]; exact hn M2 k2 s2
          · have hp : pLink rf T2 i = (aUp T2.1 (10 + i) (pNum T2.1 i), T2.2 ++ [(14, i, T2.1 (10 + i))]) := by unfold pLink; rw [if_pos ⟨z3, hr⟩]
            rw [hp] at hn
            unfold wX4_becomes
            simp (disch := omega) only [zl 147, z_in, z_cl, v1, g1, true_and]
            have k3 : SK (xup M2 51 (10 + i) (nI (pNum T2.1 i))) rf (aUp T2.1 (10 + i) (pNum T2.1 i), T2.2) := SK_set k2 (SV_n k2.1 (by omega)) (aOK_link k2.2.1 hi bn) (fun q hq => xup_n hq) (by rw [xup_at, upd, if_neg (by omega)])
            refine t_asks (r := 14) k3 (by show T2.2.length < 400; omega) (fun M3 k4 o3 _ => ?_)
            rw [e1]
            exact hn M3 k4 (rOff_tr (rOff_tr s2 (rOff_s (by omega))) o3)
      unfold wX4_countsLinks_49
      refine t_entriesTo k2.1 k2.2.1 (by omega) ?_
      simp (disch := omega) only [zl 9, z_le]
      unfold pNum at fin
      refine ⟨fun z => t_entriesTo k2.1 k2.2.1 (by omega) ?_, fun z => ?_⟩
      · by_cases q : fb_ct (aEnt T2.1 i) 60 < 9
        · rw [if_pos q] at fin; exact fin
        · rw [if_neg q] at fin
          rw [show fb_ct (aEnt T2.1 i) 60 = 9 by omega]; exact fin
      · rw [if_neg (by omega)] at fin; exact fin
    have same : pLone T i = T → wX4_countsLinks_49 Q (lX4_countsLinks_2 Q n) M' (nI i) := fun hp => by
      rw [hp] at half
      exact half M' k1 s1 (by omega)
    unfold lX4_countsLinks_2
    dsimp only
    simp (disch := omega) only [zl 10, zl 147, zl 0, z_le, z_add, Nat.zero_add, z_in, z_cl, v, g, true_and, z_eq]
    refine ⟨fun z => absurd z (by omega), fun _ => ⟨fun z => same ?_, fun z => ?_⟩⟩
    · unfold pLone
      rw [if_neg (fun q => by unfold aUse at q; rw [z] at q; exact absurd q.1 (by decide))]
    · have hu : aUse T.1 i = true := by unfold aUse; simp [z]
      refine t_isDirectory k1.1 k1.2.1 hi ⟨fun z2 => same ?_, fun z2 => ?_⟩
      · unfold pLone
        rw [if_neg (fun q => by rw [bI_ne z2] at q; exact absurd q.2.1 (by decide))]
      · have hd : aDir T.1 i = false := (bI_0 _).mp z2
        have b2 := ct_le60 (aEnt T.1 i)
        refine t_entriesTo k1.1 k1.2.1 (by omega) ?_
        rw [z_eq (by omega) (by omega)]
        refine ⟨fun z3 => same ?_, fun z3 => ?_⟩
        · unfold pLone
          rw [if_neg (fun q => z3 q.2.2)]
        · have hp : pLone T i = ((pAtt T.1 i).1, T.2 ++ [(13, i, (pAtt T.1 i).2)]) := by unfold pLone; rw [if_pos ⟨hu, hd, z3⟩]
          rw [hp] at half
          refine t_attaches k1.1 k1.2.1 hi (fun M2 c2 o2 r2 => ?_)
          have k2 : SK M2 rf ((pAtt T.1 i).1, T.2) := SK_set k1 c2 (pAtt_ok k1.2.1 hi) o2 r2
          refine t_asks (r := 13) k2 (by show T.2.length < 400; omega) (fun M3 k3 o3 _ => half M3 k3 (rOff_tr (rOff_tr s1 (rOff_51 o2 r2)) o3) ?_)
          simp only [List.length_append, List.length_singleton]; omega
theorem t_maps {R : aT} {Q : xM → Prop} (h : SK M rf R) (hl : R.2.length < 300) (hq : ∀ M', SK M' rf (pIter (pIm rf) (pIter (pBm rf) R 24) 10) → rOff M M' → Q M') : wX4_maps M Q := by
  have second : ∀ M1, SK M1 rf (pIter (pBm rf) R 24) → rOff M M1 → wX4_maps_75 Q M1 := by
    intro M1 k1 s1
    have hlB := pIter_len (pBm_len rf) R 24
    generalize pIter (pBm rf) R 24 = R2 at k1 hq hlB
    unfold wX4_maps_75
    have key := z_loop (P := fun n i => ∀ M'', SK M'' rf (pIter (pIm rf) R2 i) → rOff M M'' → lX4_maps_77 Q n M'' (nI i)) 10 (fun n M'' k2 s2 => ?_) (fun n i hi hn M'' k2 s2 => ?_)
    · obtain ⟨n, hn⟩ := key
      exact ⟨n, hn M1 k1 s1⟩
    · unfold lX4_maps_77 wX4_maps_153
      simp (disch := omega) only [zl 10, z_le, Nat.le_refl, true_implies, not_true, false_implies, and_true]
      exact hq M'' k2 s2
    · have hl := pIter_len (pIm_len rf) R2 i
      have hex : rf 16 = true → pIter (pIm rf) R2 10 = pIter (pIm rf) R2 i := fun z => by
        have hf : ∀ T k, pIm rf T k = T := fun T k => by unfold pIm; rw [if_neg (fun q => by rw [z] at q; exact absurd q.2 (by decide))]
        rw [pIter_fix hf, pIter_fix hf]
      have hstep : pIter (pIm rf) R2 (i + 1) = pIm rf (pIter (pIm rf) R2 i) i := rfl
      rw [hstep] at hn
      generalize pIter (pIm rf) R2 i = T at k2 hl hn hex
      have e1 : nI i + 1 = nI (i + 1) := nI_1 i
      have v := k2.1.1 i hi
      have b := k2.2.1.1 i hi
      have g : i < 147 := by omega
      have c5 : (145 : Int32).toNatClampNeg = 145 := rfl
      have g5 : vp_in 145 147 := (z_in (a := 145) (by omega) (by omega)).mpr (by omega)
      unfold lX4_maps_77 wX4_maps_153
      dsimp only
      simp (disch := omega) only [zl 10, z_le]
      refine ⟨fun z => absurd z (by omega), fun _ => t_isRefused (r := 16) k2 (by omega) ⟨fun z => hq M'' (by rw [hex (bI_ne z)]; exact k2) s2, fun z => ?_⟩⟩
      have hr := (bI_0 _).mp z
      have half : ∀ u : Bool, aUse T.1 i = u → wX4_maps_108 Q (lX4_maps_77 Q n) M'' (nI i) (bI u) := by
        intro u hu
        unfold wX4_maps_108 wX4_maps_147
        rw [c5, k2.1.2.2.2.2.2.2.2, bs_test_x (T.1 145) (n := 10) (by omega) k2.2.1.2.2.2.2.2.2.2, bs_test _ (by omega) hi]
        refine ⟨g5, fun z2 => ?_, fun z2 => ?_⟩
        · have : (T.1 145).testBit i = u := by
            cases ha : (T.1 145).testBit i <;> cases hb : u <;> rw [ha, hb] at z2 <;> first | rfl | exact absurd z2 (by decide)
          have hp : pIm rf T i = T := by unfold pIm; rw [if_neg (fun q => q.1 (this.trans hu.symm))]
          rw [hp] at hn
          rw [e1]; exact hn M'' k2 s2
        · have hne : (T.1 145).testBit i ≠ aUse T.1 i := fun q => by
            rw [q, hu] at z2
            apply z2
            cases u <;> rfl
          have hp : pIm rf T i = (aUp T.1 145 (T.1 145 ^^^ 2 ^ i), T.2 ++ [(16, i, 0)]) := by unfold pIm; rw [if_pos ⟨hne, hr⟩]
          rw [hp] at hn
          refine t_asks (r := 16) (p := 0) k2 (by omega) (fun M3 k3 o3 _ => ⟨g5, ?_⟩)
          have hm3 : M3 51 145 = nI (T.1 145) := k3.1.2.2.2.2.2.2.2
          rw [hm3, one_shl (by omega), fb_xorI, e1]
          refine hn _ (SK_set k3 (SV_n k3.1 (by omega)) (aOK_im k3.2.1 (x_lt k3.2.1.2.2.2.2.2.2.2 hi)) (fun q hq => xup_n hq) (by rw [xup_at, upd, if_neg (by omega)])) (rOff_tr (rOff_tr s2 o3) (rOff_s (by omega)))
      simp (disch := omega) only [zl 147, zl 0, z_add, Nat.zero_add, z_in, z_cl, v, g, true_and, z_eq]
      refine ⟨fun z2 => half true (by unfold aUse; simp [z2]), fun z2 => half false (by unfold aUse; simp [z2])⟩
  unfold wX4_maps
  have key := z_loop (P := fun n i => ∀ M'', SK M'' rf (pIter (pBm rf) R i) → rOff M M'' → lX4_maps_2 Q n M'' (nI i)) 24 (fun n M'' k2 s2 => ?_) (fun n i hi hn M'' k2 s2 => ?_)
  · obtain ⟨n, hn⟩ := key
    exact ⟨n, hn M h rOff_rf⟩
  · unfold lX4_maps_2
    simp (disch := omega) only [zl 24, z_le, Nat.le_refl, true_implies, not_true, false_implies, and_true]
    exact second M'' k2 s2
  · have hl := pIter_len (pBm_len rf) R i
    have hex : rf 15 = true → pIter (pBm rf) R 24 = pIter (pBm rf) R i := fun z => by
      have hf : ∀ T k, pBm rf T k = T := fun T k => by unfold pBm; rw [if_neg (fun q => by rw [z] at q; exact absurd q.2 (by decide))]
      rw [pIter_fix hf, pIter_fix hf]
    have hstep : pIter (pBm rf) R (i + 1) = pBm rf (pIter (pBm rf) R i) i := rfl
    rw [hstep] at hn
    generalize pIter (pBm rf) R i = T at k2 hl hn hex
    have e1 : nI i + 1 = nI (i + 1) := nI_1 i
    have c5 : (144 : Int32).toNatClampNeg = 144 := rfl
    have g5 : vp_in 144 147 := (z_in (a := 144) (by omega) (by omega)).mpr (by omega)
    unfold lX4_maps_2
    dsimp only
    simp (disch := omega) only [zl 24, z_le]
    refine ⟨fun z => absurd z (by omega), fun _ => t_isRefused (r := 15) k2 (by omega) ⟨fun z => second M'' (by rw [hex (bI_ne z)]; exact k2) s2, fun z => ?_⟩⟩
    have hr := (bI_0 _).mp z
    have half : ∀ u : Bool, aPt T.1 i = u → wX4_maps_30 Q (lX4_maps_2 Q n) M'' (nI i) (bI u) := by
      intro u hu
      unfold wX4_maps_30 wX4_maps_69
      rw [c5, k2.1.2.2.2.2.2.2.1, bs_test_x (T.1 144) (n := 24) (by omega) k2.2.1.2.2.2.2.2.2.1, bs_test _ (by omega) hi]
      refine ⟨g5, fun z2 => ?_, fun z2 => ?_⟩
      · have : (T.1 144).testBit i = u := by
          cases ha : (T.1 144).testBit i <;> cases hb : u <;> rw [ha, hb] at z2 <;> first | rfl | exact absurd z2 (by decide)
        have hp : pBm rf T i = T := by unfold pBm; rw [if_neg (fun q => q.1 (this.trans hu.symm))]
        rw [hp] at hn
        rw [e1]; exact hn M'' k2 s2
      · have hne : (T.1 144).testBit i ≠ aPt T.1 i := fun q => by
          rw [q, hu] at z2
          apply z2
          cases u <;> rfl
        have hp : pBm rf T i = (aUp T.1 144 (T.1 144 ^^^ 2 ^ i), T.2 ++ [(15, i, 0)]) := by unfold pBm; rw [if_pos ⟨hne, hr⟩]
        rw [hp] at hn
        refine t_asks (r := 15) (p := 0) k2 (by omega) (fun M3 k3 o3 _ => ⟨g5, ?_⟩)
        have hm3 : M3 51 144 = nI (T.1 144) := k3.1.2.2.2.2.2.2.1
        rw [hm3, one_shl (by omega), fb_xorI, e1]
        refine hn _ (SK_set k3 (SV_n k3.1 (by omega)) (aOK_bm k3.2.1 (x_lt k3.2.1.2.2.2.2.2.2.1 hi)) (fun q hq => xup_n hq) (by rw [xup_at, upd, if_neg (by omega)])) (rOff_tr (rOff_tr s2 o3) (rOff_s (by omega)))
    have h30 := fb_ct_le (aTo T.1 i) 30
    refine t_pointersTo k2.1 k2.2.1 (by omega) ?_
    rw [show (0 : Int32) = nI 0 from rfl, z_le (by omega) (by omega)]
    refine ⟨fun z2 => half false ?_, fun z2 => half true ?_⟩
    · unfold aPt; exact ct_0.mp (by omega)
    · cases hz : aPt T.1 i with
      | true => rfl
      | false => unfold aPt at hz; have := ct_0.mpr hz; omega
theorem t_slots {R : aT} {Q : Int32 → xM → Prop} (h : SK M rf R) (hl : R.2.length ≤ 40) (hq : ∀ M', SK M' rf (pIter pEnt R 60) → rOff M M' → wX4_connects M' (fun M77 => wX4_countsLinks M77 (fun M81 => wX4_maps M81 (fun M85 => Q (M85 50 14) M85)))) : ∃ n, lX4_checks_52 Q n M 0 := by
  have key := z_loop (P := fun n k => ∀ M2, SK M2 rf (pIter pEnt R k) → rOff M M2 → lX4_checks_52 Q n M2 (nI k)) 60 (fun n M2 k2 s2 => ?_) (fun n k hk hn M2 k2 s2 => ?_)
  · obtain ⟨n, hn⟩ := key
    exact ⟨n, hn M h rOff_rf⟩
  · unfold lX4_checks_52
    simp (disch := omega) only [zl 60, z_le, Nat.le_refl, true_implies, not_true, false_implies, and_true]
    exact hq M2 k2 s2
  · have hl := pIter_len pEnt_len R k
    have hstep : pIter pEnt R (k + 1) = pEnt (pIter pEnt R k) k := rfl
    rw [hstep] at hn
    generalize pIter pEnt R k = T at k2 hl hn
    have e : 6 * (k / 6) + k % 6 = k := by omega
    unfold lX4_checks_52
    dsimp only
    simp (disch := omega) only [zl 60, zl 6, z_le, z_div, z_rem3, nI_1]
    refine ⟨fun z => absurd z (by omega), fun _ => t_looksAtSlot k2 (by omega) (by omega) (by omega) (fun M3 k3 s3 => ?_)⟩
    rw [e] at k3
    exact hn M3 k3 (rOff_tr s2 s3)
theorem t_ptrs {R : aT} {Q : Int32 → xM → Prop} (h : SK M rf R) (hl : R.2.length ≤ 5) (hq : ∀ M', SK M' rf (pIter (pPtr rf) R 30) → rOff M M' → ∃ n, lX4_checks_52 Q n M' 0) : wX4_checks_26 Q M := by
  unfold wX4_checks_26
  have key := z_loop (P := fun n k => ∀ M2, SK M2 rf (pIter (pPtr rf) R k) → rOff M M2 → lX4_checks_28 Q n M2 (nI k)) 30 (fun n M2 k2 s2 => ?_) (fun n k hk hn M2 k2 s2 => ?_)
  · obtain ⟨n, hn⟩ := key
    exact ⟨n, hn M h rOff_rf⟩
  · unfold lX4_checks_28
    simp (disch := omega) only [zl 30, z_le, Nat.le_refl, true_implies, not_true, false_implies, and_true]
    exact hq M2 k2 s2
  · have hl := pIter_len (pPtr_len rf) R k
    have hstep : pIter (pPtr rf) R (k + 1) = pPtr rf (pIter (pPtr rf) R k) k := rfl
    rw [hstep] at hn
    generalize pIter (pPtr rf) R k = T at k2 hl hn
    have e : 3 * (k / 3) + k % 3 = k := by omega
    unfold lX4_checks_28
    dsimp only
    simp (disch := omega) only [zl 30, zl 3, z_le, z_div, z_rem3, nI_1]
    refine ⟨fun z => absurd z (by omega), fun _ => t_looksAtPointer k2 (by omega) (by omega) (by omega) (fun M3 k3 s3 => ?_)⟩
    rw [e] at k3
    exact hn M3 k3 (rOff_tr s2 s3)
theorem pChk_lens (rf : Nat → Bool) (A : Nat → Nat) : (pChk1 rf A).2.length ≤ 31 ∧ (pChk2 rf A).2.length ≤ 91 ∧ (pChk4 rf A).2.length ≤ 121 ∧ (pChk5 rf A).2.length ≤ 141 := by
  have l1 : (pChk1 rf A).2.length ≤ 31 := by
    have h1 := pIter_len (pPtr_len rf) (pRoot A) 30
    have h2 := pRoot_len A
    show (pIter (pPtr rf) (pRoot A) 30).2.length ≤ 31
    omega
  have l2 : (pChk2 rf A).2.length ≤ 91 := by
    have h1 := pIter_len pEnt_len (pChk1 rf A) 60
    show (pIter pEnt (pChk1 rf A) 60).2.length ≤ 91
    omega
  have l3 : ∀ n T, (pConns T n).2.length ≤ T.2.length + 2 * n := by
    intro n
    induction n with
    | zero => intro T; exact Nat.le_refl _
    | succ n ih =>
      intro T
      have h1 := ih (pConn T)
      have h2 := pConn_len T
      show (pConns (pConn T) n).2.length ≤ _
      omega
  have l4 : (pChk4 rf A).2.length ≤ 121 := by
    have h1 := l3 10 (pChk2 rf A)
    have h2 := pIter_len (pPar_len rf) (pChk3 rf A) 10
    have h3 : (pChk3 rf A).2.length ≤ 111 := by show (pConns (pChk2 rf A) 10).2.length ≤ 111; omega
    show (pIter (pPar rf) (pChk3 rf A) 10).2.length ≤ 121
    omega
  refine ⟨l1, l2, l4, ?_⟩
  have h1 := pIter_len2 (pCnt_len rf) (pChk4 rf A) 10
  show (pIter (pCnt rf) (pChk4 rf A) 10).2.length ≤ 141
  omega
/-- a check: what it asks, what it leaves -/
theorem t_checks {A : Nat → Nat} {Q : Int32 → xM → Prop} (hS : SV M A) (hO : aOK A) (h6 : M 51 146 = bs rf 17) (hq : ∀ M', SK M' rf (pChk rf A) → rOff M M' → Q (nI (pChk rf A).2.length) M') : wX4_checks M Q := by
  have k0 : SK (xup M 50 14 0) rf (A, []) := ⟨SV_same hS (xup_n (by omega)), hO, by rw [xup_n (by omega)]; exact h6, by rw [xup_at]; rfl, fun j hj => absurd hj (Nat.not_lt_zero j)⟩
  have s0 : rOff M (xup M 50 14 0) := ⟨fun p a _ _ _ _ => xup_n a, fun j hj => by rw [xup_at, upd, if_neg hj], by rw [xup_n (by omega)]⟩
  obtain ⟨l1, l2, l4, l5⟩ := pChk_lens rf A
  have j2 := pChk2_J (rf := rf) hO
  have e1 : pIter (pPtr rf) (pRoot A) 30 = pChk1 rf A := rfl
  have e2 : pIter pEnt (pChk1 rf A) 60 = pChk2 rf A := rfl
  have e4 : pIter (pPar rf) (pConns (pChk2 rf A) 10) 10 = pChk4 rf A := rfl
  have e5 : pIter (pCnt rf) (pChk4 rf A) 10 = pChk5 rf A := rfl
  have e6 : pIter (pIm rf) (pIter (pBm rf) (pChk5 rf A) 24) 10 = pChk rf A := rfl
  have ptrs : ∀ M1, SK M1 rf (pRoot A) → rOff M M1 → wX4_checks_26 Q M1 := by
    intro M1 k1 s1
    have hr := pRoot_len A
    refine t_ptrs k1 (by omega) (fun M2 k2 s2 => ?_)
    rw [e1] at k2
    generalize pChk1 rf A = C1 at k2 l1 e2
    refine t_slots k2 (by omega) (fun M3 k3 s3 => ?_)
    rw [e2] at k3
    generalize pChk2 rf A = C2 at k3 l2 e4 j2
    refine t_connects k3 j2 (by omega) (fun M4 k4 s4 => ?_)
    rw [e4] at k4
    generalize pChk4 rf A = C4 at k4 l4 e5
    refine t_countsLinks k4 (by omega) (fun M5 k5 s5 => ?_)
    rw [e5] at k5
    generalize pChk5 rf A = C5 at k5 l5 e6
    refine t_maps k5 (by omega) (fun M6 k6 s6 => ?_)
    rw [e6] at k6
    generalize pChk rf A = C6 at k6 hq
    rw [k6.2.2.2.1]
    exact hq M6 k6 (rOff_tr (rOff_tr (rOff_tr (rOff_tr (rOff_tr s1 s2) s3) s4) s5) s6)
  unfold wX4_checks
  refine t_isDirectory (i := 0) k0.1 hO (by omega) ⟨fun z => ptrs _ ?_ s0, fun z => ?_⟩
  · unfold pRoot; rw [if_pos (bI_ne z)]; exact k0
  · have e : pRoot A = (aWipe A 0 2, [(1, 0, 0)]) := by unfold pRoot; rw [if_neg (by rw [(bI_0 _).mp z]; decide)]
    refine t_asks (r := 1) (w := 0) (p := 0) k0 (by show 0 < 400; omega) (fun M1 k1 s1 _ => ?_)
    refine t_wipes (i := 0) (kd := 2) k1.1 (by omega) (fun M2 c2 o2 r2 => ptrs M2 ?_ (rOff_tr (rOff_tr s0 s1) (rOff_51 o2 r2)))
    rw [e]
    exact SK_set k1 c2 (aOK_wipe hO (by omega) (by omega)) o2 r2
end RD
