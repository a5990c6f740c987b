/-! the class: links; a check from its begin to its end -/
theorem ct_le60 (p : Nat → Bool) : fb_ct p 60 ≤ 60 := fb_ct_le p 60
section XP
variable {M : xM} {c : Nat} {rf : Nat → Bool} {T : aT}
theorem CK_row {M M' : xM} {c : Nat} {rf : Nat → Bool} {T : aT} (h : CK M c rf T) (hs : ∀ p, p ≠ c + 11 → M' p = M p) : CK M' c rf T := by
  obtain ⟨h1, h2, h3, h4, h5⟩ := h
  exact ⟨CV_same h1 fun d hd => hs _ (by omega), h2, by rw [hs c (by omega)]; exact h3, by rw [hs c (by omega)]; exact h4, qAt_cong h5 (hs _ (by omega)) (hs _ (by omega)) (hs _ (by omega))⟩
theorem r_mendCounts {R : aT} {Q : xM → Prop} (hc : xChk c) (hr : rfOK rf) (hR : R.2.length ≤ 121) (hJ : ∀ n, n ≤ 10 → aJ1 (pIter (pCnt rf) R n).1) (h : CK M c rf R) (hq : ∀ M', CK M' c rf (pIter (pCnt rf) R 10) → sOff c (c + 11) M M' → Q M') : wX0_mendCounts M c Q := by
  unfold wX0_mendCounts
  refine r_countEntries (xChk_v hc) (xChk_l11 hc) (by omega) h.1 h.2.1 (fun M1 e1 f1 => ?_)
  have key := z_loop (P := fun n i => ∀ M', CK M' c rf (pIter (pCnt rf) R i) → (∀ t, i ≤ t → t < 10 → M' (c + 11) t = nI (fb_ct (aEnt (pIter (pCnt rf) R i).1 t) 60)) → sOff c (c + 11) M M' → lX0_mendCounts_13 c Q n M' (nI i)) 10 (fun n M' k1 g1 s1 => ?_) (fun n i hi hn M' k1 g1 s1 => ?_)
  · obtain ⟨n, hn⟩ := key
    exact ⟨n, hn M1 (CK_row h f1) (fun t _ ht => e1 t ht) (fun p hp => f1 p (by omega))⟩
  · unfold lX0_mendCounts_13
    simp (disch := omega) only [zl 10, z_le, Nat.le_refl, true_implies, not_true, false_implies, and_true]
    exact hq M' k1 s1
  · have hl := pIter_len2 (pCnt_len rf) R i
    have hj := hJ i (by omega)
    have hstep : pIter (pCnt rf) R (i + 1) = pCnt rf (pIter (pCnt rf) R i) i := rfl
    rw [hstep] at hn
    generalize pIter (pCnt rf) R i = T at k1 hl hn g1 hj
    have e1 : nI i + 1 = nI (i + 1) := nI_1 i
    have hk : M' (c + 2) i = nI (T.1 i) := k1.1.1 i hi
    have bk := k1.2.1.1 i hi
    -- the second half of a turn
    have half : ∀ M2, CK M2 c rf (pLone T i) → (∀ t, i ≤ t → t < 10 → M2 (c + 11) t = nI (fb_ct (aEnt (pLone T i).1 t) 60)) → sOff c (c + 11) M M2 → (pLone T i).2.length < 160 → wX0_mendCounts_104 c Q (lX0_mendCounts_13 c Q n) M2 (nI i) := by
      intro M2 k2 g2 s2 hl2
      have hpc : pCnt rf T i = pLink rf (pLone T i) i := rfl
      rw [hpc] at hn
      generalize pLone T i = T2 at k2 g2 hl2 hn
      have v1 : M2 (c + 3) i = nI (T2.1 (10 + i)) := k2.1.2.1 i hi
      have v2 := g2 i (Nat.le_refl i) hi
      have b1 := k2.2.1.2.1 i hi
      have b2 := ct_le60 (aEnt T2.1 i)
      have en : (if nI (fb_ct (aEnt T2.1 i) 60) < (9 : Int32) then nI (fb_ct (aEnt T2.1 i) 60) else 9) = nI (pNum T2.1 i) := by
        unfold pNum
        rw [zl 9]
        by_cases hz : fb_ct (aEnt T2.1 i) 60 < 9
        · rw [if_pos hz, if_pos ((z_lt (by omega) (by omega)).mpr hz)]
        · rw [if_neg hz, if_neg (fun q => hz ((z_lt (by omega) (by omega)).mp q))]
      have bn : pNum T2.1 i < 10 := by unfold pNum; split <;> omega
      unfold wX0_mendCounts_104 wX0_mendCounts_155
      simp (disch := omega) only [zl 10, z_in, z_cl, hi, true_and, v1, v2]
      rw [en, e1]
      have old : ∀ T3 : aT, T3.1 = aUp T2.1 (10 + i) (pNum T2.1 i) → ∀ t, fb_ct (aEnt T3.1 t) 60 = fb_ct (aEnt T2.1 t) 60 := fun T3 h3 t => fb_ct_cong fun k hk => by
        rw [h3]; unfold aEnt aUp; rw [if_neg (by omega)]
      refine ⟨fun z => ?_, fun z => ?_⟩
      · rw [z_eq (by omega) (by omega)] at z
        have hp : pLink rf T2 i = T2 := by unfold pLink; rw [if_neg (fun q => q.1 z)]
        rw [hp] at hn
        exact hn M2 k2 (fun t h1 h2 => g2 t (by omega) h2) s2
      · have z3 : ¬ T2.1 (10 + i) = pNum T2.1 i := fun q => z (by rw [q])
        refine r_asks (r := 14) k2 (by omega) (by omega) (fun q => ?_) (fun q M3 k3 s3 d3 o3 => ?_)
        · have hp : pLink rf T2 i = T2 := by unfold pLink; rw [if_neg (fun w => by rw [q] at w; exact absurd w.2 (by decide))]
          rw [hp] at hn
          exact ⟨fun _ => hn M2 k2 (fun t h1 h2 => g2 t (by omega) h2) s2, fun z4 => absurd rfl z4⟩
        · have hp : pLink rf T2 i = (aUp T2.1 (10 + i) (pNum T2.1 i), T2.2 ++ [(14, i, T2.1 (10 + i))]) := by unfold pLink; rw [if_pos ⟨z3, q⟩]
          rw [hp] at hn
          refine ⟨fun z4 => absurd z4 (by decide), fun _ => hn _ ?_ (fun t h1 h2 => ?_) (sOff_tr (sOff_tr s2 s3) (sOff_up (by omega)))⟩
          · exact CK_vol k3 (CV_link k3.1 hi) (aOK_link k3.2.1 hi bn) (sOff_up (by omega))
          · rw [xup_n (by omega), o3, g2 t (by omega) h2]
            exact congrArg nI (old (aUp T2.1 (10 + i) (pNum T2.1 i), T2.2 ++ [(14, i, T2.1 (10 + i))]) rfl t).symm
    have same : pLone T i = T → wX0_mendCounts_104 c Q (lX0_mendCounts_13 c Q n) M' (nI i) := fun hp => by
      rw [hp] at half
      exact half M' k1 g1 s1 (by omega)
    unfold lX0_mendCounts_13 wX0_mendCounts_46 wX0_mendCounts_47
    dsimp only
    simp (disch := omega) only [zl 10, z_le, z_in, z_cl, hi, true_and, hk]
    refine ⟨fun z => absurd z (by omega), fun _ => ⟨fun z => ?_, fun z => ?_⟩⟩
    · have z0 : T.1 i = 0 := (z_eq (b := 0) (by omega) (by omega)).mp z
      refine ⟨fun _ => same ?_, fun z2 => absurd trivial z2⟩
      unfold pLone
      rw [if_neg (fun q => by unfold aUse at q; rw [z0] at q; exact absurd q.1 (by decide))]
    · have z0 : ¬ T.1 i = 0 := fun q => z ((z_eq (b := 0) (by omega) (by omega)).mpr q)
      have hu : aUse T.1 i = true := by unfold aUse; simp [z0]
      refine r_isDirectory k1.1 k1.2.1 hi ⟨fun z2 => ?_, fun z2 => ?_⟩
      · have hd : aDir T.1 i = true := by
          cases hd : aDir T.1 i with
          | true => rfl
          | false => exact absurd ((bI_0 _).mpr hd) z2
        refine ⟨fun _ => same ?_, fun z3 => absurd trivial z3⟩
        unfold pLone
        rw [if_neg (fun q => by rw [hd] at q; exact absurd q.2.1 (by decide))]
      · have hd : aDir T.1 i = false := (bI_0 _).mp z2
        refine ⟨fun z3 => absurd z3 (by decide), fun _ => ?_⟩
        have v2 := g1 i (Nat.le_refl i) hi
        have b2 := ct_le60 (aEnt T.1 i)
        rw [v2]
        refine ⟨fun z3 => same ?_, fun z3 => ?_⟩
        · have z4 : ¬ fb_ct (aEnt T.1 i) 60 = 0 := fun q => z3 ((z_eq (b := 0) (by omega) (by omega)).mpr q)
          unfold pLone
          rw [if_neg (fun q => z4 q.2.2)]
        · have z4 : fb_ct (aEnt T.1 i) 60 = 0 := (z_eq (b := 0) (by omega) (by omega)).mp z3
          have hp : pLone T i = ((pAtt T.1 i).1, T.2 ++ [(13, i, (pAtt T.1 i).2)]) := by unfold pLone; rw [if_pos ⟨hu, hd, z4⟩]
          rw [hp] at half
          have hl3 : (T.2 ++ [(13, i, (pAtt T.1 i).2)]).length < 160 := by simp only [List.length_append, List.length_singleton]; omega
          unfold wX0_mendCounts_83 wX0_mendCounts_103
          refine r_attach k1.1 k1.2.1 hi (fun h6 M1 c1 s3 => ?_) (fun h6 M1 c1 s3 => ?_)
          · have k3 := CK_vol k1 c1 (pAtt_ok k1.2.1 hi) s3
            have hne : ¬ nI (pAtt T.1 i).2 = (-9 : Int32) := by rw [show (-9 : Int32) = -nI 9 from rfl, z_neq (by omega) (by omega) (by omega)]; exact id
            refine ⟨fun _ => ?_, fun z5 => absurd z5 hne⟩
            refine r_asks (r := 13) k3 (by omega) (by show T.2.length < 180; omega) (fun q => by rw [rf_no hr (by omega)] at q; cases q) (fun _ M2 k2 s2 d2 o2 => ⟨fun _ => ⟨(z_in (by omega) (by omega)).mpr hi, ?_⟩, fun z5 => absurd z5 hne⟩)
            rw [z_cl (by omega)]
            refine half _ (CK_row k2 (fun p hp => xup_n hp)) (fun t h1 h2 => ?_) (sOff_tr (sOff_tr (sOff_tr s1 (fun p hp => s3 p (by omega))) s2) (sOff_up (by omega))) hl3
            rw [xup_at, upd, o2, s3 _ (by omega), g1 t h1 h2]
            show _ = nI (fb_ct (aEnt (pAtt T.1 i).1 t) 60)
            rw [ct_att1 k1.2.1 hi h6]
            by_cases ht : t = i
            · subst ht; rw [if_pos rfl, if_pos rfl, z4]; rfl
            · rw [if_neg ht, if_neg ht, Nat.add_zero]
          · have k3 := CK_vol k1 c1 (pAtt_ok k1.2.1 hi) s3
            refine ⟨fun z5 => absurd rfl z5, fun _ => ?_⟩
            rw [h6] at half
            refine r_asks (r := 13) (p := 6) k3 (by omega) (by show T.2.length < 180; omega) (fun q => by rw [rf_no hr (by omega)] at q; cases q) (fun _ M2 k2 s2 d2 o2 => ⟨fun z5 => absurd rfl z5, fun _ => ⟨(z_in (by omega) (by omega)).mpr hi, ?_⟩⟩)
            rw [z_cl (by omega)]
            refine half _ (CK_row k2 (fun p hp => xup_n hp)) (fun t h1 h2 => ?_) (sOff_tr (sOff_tr (sOff_tr s1 (fun p hp => s3 p (by omega))) s2) (sOff_up (by omega))) (by simpa using hl3)
            rw [xup_at, upd, o2, s3 _ (by omega), g1 t h1 h2]
            show _ = nI (fb_ct (aEnt (pAtt T.1 i).1 t) 60)
            rw [ct_att0 hj hi hd h6 k1.2.1]
            by_cases ht : t = i
            · subst ht; rw [if_pos rfl, z4]; rfl
            · rw [if_neg ht]
/-- a check of a copy of the volume at o -/
theorem r_run {o : Nat} {A : Nat → Nat} {Q : xM → Prop} (hc : xChk c) (ho : xVol o) (hoc : o < c ∨ c + 11 < o ∨ o = 0) (hne : c + 1 ≠ o) (hr : rfOK rf) (hO : aOK A) (hJ : ∀ n, n ≤ 10 → aJ1 (pIter (pCnt rf) (pChk4 rf A) n).1) (hC : CV M o A) (hq : ∀ M', CK M' c rf (pChk rf A) → sOff c (c + 11) M M' → Q M') : wX0_run M c o (bs rf 17) Q := by
  unfold wX0_run
  refine r_takeFrom (xChk_v hc) ho hne hC (fun M1 c1 s1 => ?_)
  have k0 : CK (xup (xup M1 c 6 (bs rf 17)) c 4 0) c rf (A, []) := by
    refine ⟨CV_same c1 fun d hd => ?_, hO, ?_, ?_, fun j hj => absurd hj (Nat.not_lt_zero j)⟩
    · rw [xup_n (by omega), xup_n (by omega)]
    · rw [xup_at]; rfl
    · rw [xup_at, xup_at]; rfl
  have s0 : sOff c (c + 11) M (xup (xup M1 c 6 (bs rf 17)) c 4 0) := sOff_tr (sOff_tr (fun p hp => s1 p (by omega)) (sOff_up (by omega))) (sOff_up (by omega))
  have l1 : (pChk1 rf A).2.length ≤ 31 := by
    have h1 := pIter_len (pPtr_len rf) (pRoot A) 30
    have h2 := pRoot_len A
    show (pIter (pPtr rf) (pRoot A) 30).2.length ≤ 31
    omega
  have l2 : (pChk2 rf A).2.length ≤ 91 := by
    have h1 := pIter_len pEnt_len (pChk1 rf A) 60
    show (pIter pEnt (pChk1 rf A) 60).2.length ≤ 91
    omega
  have l3 : ∀ n T, (pConns T n).2.length ≤ T.2.length + 2 * n := by
    intro n
    induction n with
    | zero => intro T; exact Nat.le_refl _
    | succ n ih =>
      intro T
      have h1 := ih (pConn T)
      have h2 := pConn_len T
      show (pConns (pConn T) n).2.length ≤ _
      omega
  have l3' : (pChk3 rf A).2.length ≤ 111 := by
    have h1 := l3 10 (pChk2 rf A)
    show (pConns (pChk2 rf A) 10).2.length ≤ 111
    omega
  have l4 : (pChk4 rf A).2.length ≤ 121 := by
    have h1 := pIter_len (pPar_len rf) (pChk3 rf A) 10
    show (pIter (pPar rf) (pChk3 rf A) 10).2.length ≤ 121
    omega
  have l5 : (pChk5 rf A).2.length ≤ 141 := by
    have h1 := pIter_len2 (pCnt_len rf) (pChk4 rf A) 10
    show (pIter (pCnt rf) (pChk4 rf A) 10).2.length ≤ 141
    omega
  refine r_mendPointers hc hr k0 (fun M2 k2 s2 => ?_)
  refine r_mendEntries (A := A) hc hr l1 k2 (fun M3 k3 s3 => ?_)
  refine r_mendConnections hc hr l2 k3 (fun M4 k4 s4 => ?_)
  refine r_mendParents hc hr l3' k4 (fun M5 k5 s5 => ?_)
  refine r_mendCounts hc hr l4 hJ k5 (fun M6 k6 s6 => ?_)
  refine r_mendMaps hc hr l5 k6 (fun M7 k7 s7 => ?_)
  exact hq M7 k7 (sOff_tr (sOff_tr (sOff_tr (sOff_tr (sOff_tr (sOff_tr s0 s2) s3) s4) s5) s6) s7)
end XP
