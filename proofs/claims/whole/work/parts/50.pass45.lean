/-! the class: parents, links, maps; a check whole -/
theorem pPar_len (rf : Nat → Bool) (T : aT) (k : Nat) : (pPar rf T k).2.length ≤ T.2.length + 1 := by
  unfold pPar
  split <;> simp
theorem pCnt_len (rf : Nat → Bool) (T : aT) (k : Nat) : (pCnt rf T k).2.length ≤ T.2.length + 2 := by
  have h1 : (pLone T k).2.length ≤ T.2.length + 1 := by unfold pLone; split <;> simp
  unfold pCnt pLink
  split
  · simp only [List.length_append, List.length_singleton]; omega
  · omega
theorem pBm_len (rf : Nat → Bool) (T : aT) (k : Nat) : (pBm rf T k).2.length ≤ T.2.length + 1 := by
  unfold pBm
  split <;> simp
theorem pIm_len (rf : Nat → Bool) (T : aT) (k : Nat) : (pIm rf T k).2.length ≤ T.2.length + 1 := by
  unfold pIm
  split <;> simp
theorem pIter_len2 {f : aT → Nat → aT} (h : ∀ T k, (f T k).2.length ≤ T.2.length + 2) (T : aT) : ∀ n, (pIter f T n).2.length ≤ T.2.length + 2 * n
  | 0 => Nat.le_refl _
  | n + 1 => by
    have h1 := h (pIter f T n) n
    have h2 := pIter_len2 h T n
    show (f (pIter f T n) n).2.length ≤ _
    omega
theorem pPt_lt {A : Nat → Nat} {i : Nat} (hO : aOK A) (hi : i < 10) : pDue A i < 10 := by
  have := hO.2.2.1 i hi
  unfold pDue
  repeat' split
  all_goals omega
theorem aEnt_up {A : Nat → Nat} {s e t : Nat} (k : Nat) : aEnt (aUp A (60 + s) e) t k = if k = s then (!(e == 260) && (e / 26 == t)) else aEnt A t k := by
  unfold aEnt aUp
  by_cases h : k = s
  · subst h; simp
  · rw [if_neg (by omega), if_neg h]
/-- only directories have entries -/
def aJ1 (A : Nat → Nat) : Prop := ∀ k, k < 60 → aFull A k = true → aDir A (k / 6) = true
theorem ct_att1 {A : Nat → Nat} {i t : Nat} (hO : aOK A) (hi : i < 10) (h : (pAtt A i).2 < 6) : fb_ct (aEnt (pAtt A i).1 t) 60 = fb_ct (aEnt A t) 60 + (if t = i then 1 else 0) := by
  have h6 := pSlot_6 (hO.1 0 (by omega))
  have hn := aNm_free A 0
  unfold pAtt at h ⊢
  split at h
  · rename_i hs
    rw [if_pos hs]
    have he : A (60 + pSlot A) = 260 := by
      have := fa_first_yes (fun s => A (60 + s) == 260) (aLists (A 0)) hs
      exact beq_iff_eq.mp this
    have e1 : fb_ct (aEnt (aUp A (60 + pSlot A) (26 * i + pName A)) t) 60 = fb_ct (fun k => if k = pSlot A then (!(26 * i + pName A == 260) && ((26 * i + pName A) / 26 == t)) else aEnt A t k) 60 := fb_ct_cong fun k _ => aEnt_up k
    have e2 := fb_ct_upd (aEnt A t) (!(26 * i + pName A == 260) && ((26 * i + pName A) / 26 == t)) (i := pSlot A) (n := 60) (by omega)
    have e3 : aEnt A t (pSlot A) = false := by unfold aEnt; rw [he]; simp
    rw [e3] at e2
    rw [e1]
    have hpn : pName A ≤ 6 := hn
    have e4 : (!(26 * i + pName A == 260) && ((26 * i + pName A) / 26 == t)) = decide (t = i) := by
      rw [Bool.eq_iff_iff, Bool.and_eq_true, Bool.not_eq_true', beq_eq_false_iff_ne, beq_iff_eq, decide_eq_true_eq]
      omega
    rw [e4] at e2 ⊢
    simp only [decide_eq_true_eq, Bool.false_eq_true, if_false, Nat.add_zero] at e2
    exact e2
  · simp at h
theorem ct_att0 {A : Nat → Nat} {i t : Nat} (hJ : aJ1 A) (hi : i < 10) (hd : aDir A i = false) (h : (pAtt A i).2 = 6) (hO : aOK A) : fb_ct (aEnt (pAtt A i).1 t) 60 = fb_ct (aEnt A t) 60 := by
  have h6 := pSlot_6 (hO.1 0 (by omega))
  unfold pAtt at h ⊢
  split at h
  · simp only at h; omega
  · rename_i hs
    rw [if_neg hs]
    refine fb_ct_cong fun k hk => ?_
    unfold aEnt aWipe
    dsimp only
    rw [if_neg (by omega), if_neg (by omega), if_neg (by omega), if_neg (by omega)]
    split
    · rename_i hz
      have hf : aFull A k = false := by
        cases hh : aFull A k with
        | false => rfl
        | true =>
          have := hJ k hk hh
          rw [show k / 6 = i by omega, hd] at this; cases this
      unfold aFull at hf
      simp only [Bool.not_eq_false', beq_iff_eq] at hf
      rw [hf]
    · rfl
theorem bs_test_x (x : Nat) {n : Nat} (hn : n ≤ 31) (hx : x < 2 ^ n) : nI x = bs (fun i => x.testBit i) n := by
  have h32 : 2 ^ n < 2 ^ 32 := Nat.pow_lt_pow_right (by omega) (by omega)
  refine bs_of (by omega) fun i hi => ?_
  rw [bt_nI (by omega)]
  by_cases h : i < n
  · simp [h]
  · have : x.testBit i = false := Nat.testBit_lt_two_pow (Nat.lt_of_lt_of_le hx (Nat.pow_le_pow_right (by omega) (by omega)))
    simp [this]
theorem one_shl {b : Nat} (hb : b < 31) : (1 : Int32) <<< (nI b &&& 31) = nI (2 ^ b) := by
  have := pk_shlN (n := 1) (nI b &&& 31) b (s_l b (by omega)) (by rw [Nat.one_mul]; exact Nat.pow_lt_pow_right (by omega) (by omega))
  rw [Nat.one_mul] at this
  exact this
section XP
variable {M : xM} {c : Nat} {rf : Nat → Bool} {T : aT}
theorem r_mendParents {R : aT} {Q : xM → Prop} (hc : xChk c) (hr : rfOK rf) (hR : R.2.length ≤ 111) (h : CK M c rf R) (hq : ∀ M', CK M' c rf (pIter (pPar rf) R 10) → sOff c (c + 11) M M' → Q M') : wX0_mendParents M c Q := by
  unfold wX0_mendParents
  have key := z_loop (P := fun n i => ∀ M', CK M' c rf (pIter (pPar rf) R i) → sOff c (c + 11) M M' → lX0_mendParents_2 c Q n M' (nI i)) 10 (fun n M' k1 s1 => ?_) (fun n i hi hn M' k1 s1 => ?_)
  · obtain ⟨n, hn⟩ := key
    exact ⟨n, hn M h sOff_rf⟩
  · unfold lX0_mendParents_2
    simp (disch := omega) only [zl 10, z_le, Nat.le_refl, true_implies, not_true, false_implies, and_true]
    exact hq M' k1 s1
  · have hl := pIter_len (pPar_len rf) R i
    have hstep : pIter (pPar rf) R (i + 1) = pPar rf (pIter (pPar rf) R i) i := rfl
    rw [hstep] at hn
    generalize pIter (pPar rf) R i = T at k1 hl hn
    unfold lX0_mendParents_2 wX0_mendParents_35 wX0_mendParents_60 wX0_mendParents_90
    dsimp only
    simp (disch := omega) only [zl 10, z_le, z_in, z_cl, hi, true_and]
    have e1 : nI i + 1 = nI (i + 1) := nI_1 i
    rw [e1]
    refine ⟨fun z => absurd z (by omega), fun _ => r_isDirectory k1.1 k1.2.1 hi ⟨fun z => ?_, fun z => ?_⟩⟩
    · have hd : aDir T.1 i = false := (bI_0 _).mp z
      refine hn M' ?_ s1
      unfold pPar
      rw [if_neg (fun q => by rw [hd] at q; exact absurd q.1 (by decide))]
      exact k1
    · have hd : aDir T.1 i = true := by
        cases hd : aDir T.1 i with
        | true => rfl
        | false => exact absurd ((bI_0 _).mpr hd) z
      have hv : M' (c + 4) i = nI (T.1 (20 + i)) := k1.1.2.2.1 i hi
      have b1 := k1.2.1.2.2.1 i hi
      have b2 := pPt_lt k1.2.1 hi
      have core : ∀ due, due = pDue T.1 i → (nI (T.1 (20 + i)) = nI due → lX0_mendParents_2 c Q n M' (nI (i + 1))) ∧ (¬ nI (T.1 (20 + i)) = nI due → wX0_asks M' c (12 : Int32) (nI i) (nI (T.1 (20 + i))) (fun r73 M73 => (r73 = 0 → lX0_mendParents_2 c Q n M73 (nI (i + 1))) ∧ (¬ r73 = 0 → lX0_mendParents_2 c Q n (xup M73 (c + 4) i (nI due)) (nI (i + 1))))) := by
        intro due hdue
        rw [← hdue] at b2
        refine ⟨fun z2 => ?_, fun z2 => ?_⟩
        · rw [z_eq (by omega) (by omega)] at z2
          refine hn M' ?_ s1
          unfold pPar
          rw [← hdue, if_neg (fun q => q.2.1 z2)]
          exact k1
        · have z3 : ¬ T.1 (20 + i) = due := fun q => z2 (by rw [q])
          refine r_asks (r := 12) k1 (by omega) (by omega) (fun q => ?_) (fun q M2 k2 s2 _ _ => ?_)
          · refine ⟨fun _ => hn M' ?_ s1, fun z4 => absurd rfl z4⟩
            unfold pPar
            rw [if_neg (fun w => by rw [q] at w; exact absurd w.2.2 (by decide))]
            exact k1
          · refine ⟨fun z4 => absurd z4 (by decide), fun _ => hn _ ?_ (sOff_tr (sOff_tr s1 s2) (sOff_up (by omega)))⟩
            unfold pPar
            rw [← hdue, if_pos ⟨hd, z3, q⟩]
            exact CK_vol k2 (CV_par k2.1 hi) (aOK_par k2.2.1 hi b2) (sOff_up (by omega))
      by_cases h0 : i = 0
      · subst h0
        have ed : pDue T.1 0 = 0 := rfl
        refine ⟨fun z2 => absurd rfl z2, fun _ => ⟨fun _ => ?_, fun z2 => absurd z2 (by decide)⟩⟩
        rw [hv]
        exact core 0 ed.symm
      · refine ⟨fun _ => r_placeOfEntryTo (xChk_v hc) k1.1 k1.2.1 (by omega) ?_, fun z2 => absurd z2 (by rw [zl 0, z_eq (by omega) (by omega)]; exact h0)⟩
        rw [hv]
        by_cases hp : fa_first (aEnt T.1 i) 60 < 60
        · rw [if_pos hp]
          refine ⟨fun _ => ?_, fun z2 => absurd z2 (by rw [show (-9 : Int32) = -nI 9 from rfl, z_neq (by omega) (by omega) (by omega)]; exact id)⟩
          rw [zl 6, z_div (by omega) (by omega) (by omega)]
          exact core _ (by unfold pDue; rw [if_neg h0, if_pos hp])
        · rw [if_neg hp]
          refine ⟨fun z2 => absurd rfl z2, fun _ => ?_⟩
          exact ⟨fun _ => (core _ (by unfold pDue; rw [if_neg h0, if_neg hp])).1 rfl, fun z2 => absurd trivial z2⟩
theorem r_mendMaps {R : aT} {Q : xM → Prop} (hc : xChk c) (hr : rfOK rf) (hR : R.2.length ≤ 141) (h : CK M c rf R) (hq : ∀ M', CK M' c rf (pIter (pIm rf) (pIter (pBm rf) R 24) 10) → sOff c (c + 11) M M' → Q M') : wX0_mendMaps M c Q := by
  have fixB : ∀ n, ((∀ q, q < 144 → (pIter (pBm rf) R n).1 q = R.1 q) ∧ (pIter (pBm rf) R n).1 145 = R.1 145) ∧ (∀ b, n ≤ b → ((pIter (pBm rf) R n).1 144).testBit b = (R.1 144).testBit b) := by
    intro n
    induction n with
    | zero => exact ⟨⟨fun _ _ => rfl, rfl⟩, fun _ _ => rfl⟩
    | succ n ih =>
      obtain ⟨⟨i1, i2⟩, i3⟩ := ih
      show ((∀ q, q < 144 → (pBm rf (pIter (pBm rf) R n) n).1 q = _) ∧ (pBm rf (pIter (pBm rf) R n) n).1 145 = _) ∧ (∀ b, n + 1 ≤ b → ((pBm rf (pIter (pBm rf) R n) n).1 144).testBit b = _)
      generalize pIter (pBm rf) R n = T at i1 i2 i3 ⊢
      unfold pBm
      split
      · refine ⟨⟨fun q hq => ?_, ?_⟩, fun b hb => ?_⟩
        · dsimp only; unfold aUp; rw [if_neg (by omega)]; exact i1 q hq
        · dsimp only; unfold aUp; rw [if_neg (by omega)]; exact i2
        · dsimp only; unfold aUp; rw [if_pos rfl, fb_bit_flip, i3 b (by omega)]
          have : ¬ b = n := by omega
          simp [this]
      · exact ⟨⟨i1, i2⟩, fun b hb => i3 b (by omega)⟩
  unfold wX0_mendMaps
  refine r_blocksPointedAt (xChk_v hc) h.1 h.2.1 ?_
  have hm : M (c + 1) 6 = nI (R.1 144) := h.1.2.2.2.2.2.2.1
  rw [hm, bs_test_x (R.1 144) (n := 24) (by omega) h.2.1.2.2.2.2.2.2.1, bs_xor _ _ (by omega)]
  have key := z_loop (P := fun n b => ∀ M', CK M' c rf (pIter (pBm rf) R b) → sOff c (c + 11) M M' → lX0_mendMaps_18 c Q n M' (bs (fun i => (R.1 144).testBit i ^^ aPt R.1 i) 24) (nI b)) 24 (fun n M' k1 s1 => ?_) (fun n b hb hn M' k1 s1 => ?_)
  · obtain ⟨n, hn⟩ := key
    exact ⟨n, hn M h sOff_rf⟩
  · unfold lX0_mendMaps_18
    dsimp only
    simp (disch := omega) only [zl 24, z_le, Nat.le_refl, true_implies, not_true, false_implies, and_true]
    have hlB := pIter_len (pBm_len rf) R 24
    generalize pIter (pBm rf) R 24 = R2 at k1 hq hlB
    have fixI : ∀ n, ((∀ q, q < 145 → (pIter (pIm rf) R2 n).1 q = R2.1 q)) ∧ (∀ b, n ≤ b → ((pIter (pIm rf) R2 n).1 145).testBit b = (R2.1 145).testBit b) := by
      intro n
      induction n with
      | zero => exact ⟨fun _ _ => rfl, fun _ _ => rfl⟩
      | succ n ih =>
        obtain ⟨i1, i3⟩ := ih
        show ((∀ q, q < 145 → (pIm rf (pIter (pIm rf) R2 n) n).1 q = _)) ∧ (∀ b, n + 1 ≤ b → ((pIm rf (pIter (pIm rf) R2 n) n).1 145).testBit b = _)
        generalize pIter (pIm rf) R2 n = T at i1 i3 ⊢
        unfold pIm
        split
        · refine ⟨fun q hq => ?_, fun b hb => ?_⟩
          · dsimp only; unfold aUp; rw [if_neg (by omega)]; exact i1 q hq
          · dsimp only; unfold aUp; rw [if_pos rfl, fb_bit_flip, i3 b (by omega)]
            have : ¬ b = n := by omega
            simp [this]
        · exact ⟨i1, fun b hb => i3 b (by omega)⟩
    refine r_inodesInUse k1.1 k1.2.1 ?_
    have hm2 : M' (c + 1) 7 = nI (R2.1 145) := k1.1.2.2.2.2.2.2.2
    rw [hm2, bs_test_x (R2.1 145) (n := 10) (by omega) k1.2.1.2.2.2.2.2.2.2, bs_xor _ _ (by omega)]
    have key := z_loop (P := fun n i => ∀ M'', CK M'' c rf (pIter (pIm rf) R2 i) → sOff c (c + 11) M M'' → lX0_mendMaps_82 c Q n M'' (bs (fun i => (R2.1 145).testBit i ^^ aUse R2.1 i) 10) (nI i)) 10 (fun n M'' k2 s2 => ?_) (fun n i hi hn M'' k2 s2 => ?_)
    · obtain ⟨n, hn⟩ := key
      exact ⟨n, hn M' k1 s1⟩
    · unfold lX0_mendMaps_82
      dsimp only
      simp (disch := omega) only [zl 10, z_le, Nat.le_refl, true_implies, not_true, false_implies, and_true]
      exact hq M'' k2 s2
    · have hl := pIter_len (pIm_len rf) R2 i
      obtain ⟨f1, f3⟩ := fixI i
      have hstep : pIter (pIm rf) R2 (i + 1) = pIm rf (pIter (pIm rf) R2 i) i := rfl
      rw [hstep] at hn
      generalize pIter (pIm rf) R2 i = T at k2 hl hn f1 f3
      unfold lX0_mendMaps_82 wX0_mendMaps_122
      dsimp only
      rw [bs_test _ (by omega) hi, ← f3 i (Nat.le_refl i)]
      have e1 : nI i + 1 = nI (i + 1) := nI_1 i
      rw [e1]
      simp (disch := omega) only [zl 10, z_le]
      have eu : aUse R2.1 i = aUse T.1 i := by unfold aUse; rw [f1 i (by omega)]
      rw [eu]
      refine ⟨fun z => absurd z (by omega), fun _ => ⟨fun z => ?_, fun z => ?_⟩⟩
      · refine hn M'' ?_ s2
        unfold pIm
        rw [if_neg (fun q => ?_)]
        · exact k2
        · have : ((T.1 145).testBit i ^^ aUse T.1 i) = true := by
            cases ha : (T.1 145).testBit i <;> cases hb : aUse T.1 i <;> simp_all
          rw [this, if_pos rfl] at z; exact absurd z (by decide)
      · have hne : (T.1 145).testBit i ≠ aUse T.1 i := fun q => by
          rw [q] at z
          apply z
          cases aUse T.1 i <;> rfl
        refine r_asks (r := 16) (p := 0) k2 (by omega) (by omega) (fun q => ?_) (fun q M3 k3 s3 _ _ => ?_)
        · refine ⟨fun _ => hn M'' ?_ s2, fun z4 => absurd rfl z4⟩
          unfold pIm
          rw [if_neg (fun w => by rw [q] at w; exact absurd w.2 (by decide))]
          exact k2
        · refine ⟨fun z4 => absurd z4 (by decide), fun _ => hn _ ?_ (sOff_tr (sOff_tr s2 s3) (sOff_up (by omega)))⟩
          have hm3 : M3 (c + 1) 7 = nI (T.1 145) := k3.1.2.2.2.2.2.2.2
          rw [hm3, one_shl (by omega), fb_xorI]
          unfold pIm
          rw [if_pos ⟨hne, q⟩]
          exact CK_vol k3 (CV_im k3.1) (aOK_im k3.2.1 (Nat.xor_lt_two_pow k3.2.1.2.2.2.2.2.2.2 (Nat.pow_lt_pow_right (by omega) hi))) (sOff_up (by omega))
  · have hl := pIter_len (pBm_len rf) R b
    obtain ⟨⟨f1, f2⟩, f3⟩ := fixB b
    have hstep : pIter (pBm rf) R (b + 1) = pBm rf (pIter (pBm rf) R b) b := rfl
    rw [hstep] at hn
    generalize pIter (pBm rf) R b = T at k1 hl hn f1 f2 f3
    unfold lX0_mendMaps_18 wX0_mendMaps_58
    dsimp only
    rw [bs_test _ (by omega) hb, ← f3 b (Nat.le_refl b)]
    have e1 : nI b + 1 = nI (b + 1) := nI_1 b
    rw [e1]
    simp (disch := omega) only [zl 24, z_le]
    have eu : aPt R.1 b = aPt T.1 b := anyN_cong fun k hk => by unfold aTo; rw [f1 _ (by omega)]
    rw [eu]
    refine ⟨fun z => absurd z (by omega), fun _ => ⟨fun z => ?_, fun z => ?_⟩⟩
    · refine hn M' ?_ s1
      unfold pBm
      rw [if_neg (fun q => ?_)]
      · exact k1
      · have : ((T.1 144).testBit b ^^ aPt T.1 b) = true := by
          cases ha : (T.1 144).testBit b <;> cases hb : aPt T.1 b <;> simp_all
        rw [this, if_pos rfl] at z; exact absurd z (by decide)
    · have hne : (T.1 144).testBit b ≠ aPt T.1 b := fun q => by
        rw [q] at z
        apply z
        cases aPt T.1 b <;> rfl
      refine r_asks (r := 15) (p := 0) k1 (by omega) (by omega) (fun q => ?_) (fun q M3 k3 s3 _ _ => ?_)
      · refine ⟨fun _ => hn M' ?_ s1, fun z4 => absurd rfl z4⟩
        unfold pBm
        rw [if_neg (fun w => by rw [q] at w; exact absurd w.2 (by decide))]
        exact k1
      · refine ⟨fun z4 => absurd z4 (by decide), fun _ => hn _ ?_ (sOff_tr (sOff_tr s1 s3) (sOff_up (by omega)))⟩
        have hm3 : M3 (c + 1) 6 = nI (T.1 144) := k3.1.2.2.2.2.2.2.1
        rw [hm3, one_shl (by omega), fb_xorI]
        unfold pBm
        rw [if_pos ⟨hne, q⟩]
        exact CK_vol k3 (CV_bm k3.1) (aOK_bm k3.2.1 (Nat.xor_lt_two_pow k3.2.1.2.2.2.2.2.2.1 (Nat.pow_lt_pow_right (by omega) hb))) (sOff_up (by omega))
end XP
