/-! a check in thought, on both sides; what is read behind it -/
def FR (M : xM) (A : Nat → Nat) (rf : Nat → Bool) : Prop := SVf (M 53) A ∧ M 53 146 = bs rf 17
def qc (q : aQ) (x : Int32) : Nat := fb_ct (fun j => decide (nI (q.getD j (0, 0, 0)).1 = x)) q.length
theorem pChk_len (rf : Nat → Bool) (A : Nat → Nat) : (pChk rf A).2.length ≤ 175 := by
  have l5 := (pChk_lens rf A).2.2.2
  have h1 := pIter_len (pBm_len rf) (pChk5 rf A) 24
  have h2 := pIter_len (pIm_len rf) (pChk6 rf A) 10
  have e1 : pIter (pBm rf) (pChk5 rf A) 24 = pChk6 rf A := rfl
  have e2 : pIter (pIm rf) (pChk6 rf A) 10 = pChk rf A := rfl
  rw [e1] at h1; rw [e2] at h2
  omega
section TH
variable {M : xM} {A : Nat → Nat} {rf : Nat → Bool}
theorem IV_c {M1 : xM} (h : IV M A rf) (c : ∀ p, p ≤ 7 ∨ p = 51 → M1 p = M p) : IV M1 A rf := by
  obtain ⟨v1, v2, v3, v4, v5, v6⟩ := h
  exact ⟨CV_same v1 fun d hd => c _ (by omega), v2, v3, by rw [c 0 (by omega)]; exact v4, SV_same v5 (c 51 (by omega)), by rw [c 51 (by omega)]; exact v6⟩
theorem c_run {Q : xM → Prop} (h : IV M A rf) (hq : ∀ M1, CK M1 22 rf (pChk rf A) → sOff 22 33 M M1 → IV M1 A rf → cOff M M1 → Q M1) : wX0_run M 22 1 (M 0 11) Q := by
  have h0 := h
  obtain ⟨v1, v2, v3, v4, v5, v6⟩ := h
  rw [v4]
  exact r_run (c := 22) (o := 1) (Or.inl rfl) xVol_at1 (by omega) (by omega) v3 v2 (pChk_hJ v2) v1 (fun M1 k1 s1 => hq M1 k1 s1 (IV_c h0 fun p hp => s1 p (by omega)) (cOff_s s1 (by omega)))
theorem inv_q {M1 M2 : xM} (h : IR M) (c : cOff M M1) (v : IV M1 A rf) (d : dOff M1 M2) (sv : SV M2 A) (s6 : M2 51 146 = bs rf 17) : Inv M2 := inv_fin h c d v.1 v.2.1 v.2.2.1 v.2.2.2.1 sv s6
theorem r_keep {Q : xM → Prop} (hS : SV M A) (h6 : M 51 146 = bs rf 17) (hq : ∀ M1, FR M1 A rf → SV M1 A → M1 51 146 = bs rf 17 → (∀ p, p ≠ 53 → M1 p = M p) → Q M1) : wX4_keeps M Q := by
  refine t_keeps (fun M1 h1 h2 => hq M1 ⟨SVf_same hS fun k hk => h1 k (by omega), by rw [h1 146 (by omega)]; exact h6⟩ (SV_same hS (h2 51 (by omega))) (by rw [h2 51 (by omega)]; exact h6) h2)
theorem r_back {Q : xM → Prop} (hF : FR M A rf) (hq : ∀ M1, SV M1 A → M1 51 146 = bs rf 17 → FR M1 A rf → (∀ p, p ≠ 51 → M1 p = M p) → Q M1) : wX4_goesBack M Q := by
  refine t_goesBack (fun M1 h1 h2 => hq M1 (SVf_same hF.1 fun k hk => h1 k (by omega)) (by rw [h1 146 (by omega)]; exact hF.2) ⟨?_, ?_⟩ h2)
  · rw [h2 53 (by omega)]; exact hF.1
  · rw [h2 53 (by omega)]; exact hF.2
theorem FR_r {M1 : xM} {B : Nat → Nat} {rg : Nat → Bool} (h : FR M B rg) (e : M1 53 = M 53) : FR M1 B rg := by unfold FR; rw [e]; exact h
theorem r_chk {B : Nat → Nat} {rg : Nat → Bool} {Q : Int32 → xM → Prop} (hS : SV M A) (hO : aOK A) (h6 : M 51 146 = bs rf 17) (hF : FR M B rg) (hq : ∀ M1, SK M1 rf (pChk rf A) → FR M1 B rg → dOff M M1 → Q (nI (pChk rf A).2.length) M1) : wX4_checks M Q :=
  t_checks hS hO h6 (fun M1 k1 o1 => hq M1 k1 (FR_r hF (o1.1 53 (by omega) (by omega) (by omega) (by omega) (by omega))) (dOff_r o1))
theorem r_think {Q : Int32 → xM → Prop} (hS : SV M A) (hO : aOK A) (h6 : M 51 146 = bs rf 17) (hq : ∀ M1, SK M1 rf (pChk rf A) → FR M1 A rf → dOff M M1 → Q (nI (pChk rf A).2.length) M1) : wX4_keeps M (fun M1 => wX4_checks M1 Q) :=
  r_keep hS h6 (fun M1 f1 s1 t1 o1 => r_chk s1 hO t1 f1 (fun M2 k2 f2 o2 => hq M2 k2 f2 (dOff_tr (dOff_53 o1) o2)))
theorem r_thinks {Q : xM → Prop} (hS : SV M A) (hO : aOK A) (h6 : M 51 146 = bs rf 17) (hq : ∀ M1, SV M1 A → M1 51 146 = bs rf 17 → M1 50 14 = nI (pChk rf A).2.length → qAt M1 56 57 58 (pChk rf A).2 → dOff M M1 → Q M1) : wX4_thinks M Q := by
  unfold wX4_thinks
  refine r_think hS hO h6 (fun M1 k1 f1 d1 => r_back f1 (fun M2 s2 t2 f2 o2 => hq M2 s2 t2 ?_ ?_ (dOff_tr d1 (dOff_51 o2))))
  · rw [o2 50 (by omega)]; exact k1.2.2.2.1
  · exact qAt_cong k1.2.2.2.2 (o2 56 (by omega)) (o2 57 (by omega)) (o2 58 (by omega))
theorem r_askedFor {c : Nat} {q : aQ} {x : Int32} {Q : Int32 → xM → Prop} (h4 : M c 4 = nI q.length) (hA : qAt M (c + 8) (c + 9) (c + 10) q) (hl : q.length ≤ 175) (hq : Q (nI (qc q x)) M) : wX0_askedFor M c x Q := by
  unfold wX0_askedFor
  refine z_loop (P := fun n j => lX0_askedFor_4 c x Q n M (nI (fb_ct (fun j => decide (nI (q.getD j (0, 0, 0)).1 = x)) j)) (nI j)) q.length (fun n => ?_) (fun n j hj hn => ?_)
  · unfold lX0_askedFor_4
    dsimp only
    rw [h4]
    exact ⟨fun _ => hq, fun z => absurd ((z_le (by omega) (by omega)).mpr (Nat.le_refl _)) z⟩
  · have v := (hA j hj).1
    have hn' : lX0_askedFor_4 c x Q n M (nI (fb_ct (fun j => decide (nI (q.getD j (0, 0, 0)).1 = x)) j + (if decide (nI (q.getD j (0, 0, 0)).1 = x) = true then 1 else 0))) (nI (j + 1)) := hn
    unfold lX0_askedFor_4 wX0_askedFor_28
    dsimp only
    rw [h4]
    simp (disch := omega) only [z_le, z_in, z_cl, v, nI_1]
    refine ⟨fun z => absurd z (by omega), fun _ => ⟨by omega, fun z => ?_, fun z => ?_⟩⟩
    · rw [decide_eq_false z, if_neg (by decide)] at hn'
      rw [show (0 : Int32) = nI 0 from rfl, z_add]; exact hn'
    · rw [decide_eq_true z, if_pos rfl] at hn'; exact hn'
theorem t_manyOf {q : aQ} {x : Int32} {Q : Int32 → xM → Prop} (h4 : M 50 14 = nI q.length) (hA : qAt M 56 57 58 q) (hl : q.length ≤ 175) (h0 : x = 0 → Q (nI q.length) M) (h1 : ¬ x = 0 → Q (nI (qc q x)) M) : wX4_manyOf M x Q := by
  unfold wX4_manyOf
  by_cases hx : x = 0
  · refine z_loop (P := fun n j => lX4_manyOf_4 x Q n M (nI j) (nI j)) q.length (fun n => ?_) (fun n j hj hn => ?_)
    · unfold lX4_manyOf_4
      dsimp only
      rw [h4]
      exact ⟨fun _ => h0 hx, fun z => absurd ((z_le (by omega) (by omega)).mpr (Nat.le_refl _)) z⟩
    · unfold lX4_manyOf_4 wX4_manyOf_27 wX4_manyOf_32
      dsimp only
      rw [h4]
      simp (disch := omega) only [z_le, nI_1]
      exact ⟨fun z => absurd z (by omega), fun _ => ⟨fun _ => hn, fun z => absurd hx z⟩⟩
  · refine z_loop (P := fun n j => lX4_manyOf_4 x Q n M (nI (fb_ct (fun j => decide (nI (q.getD j (0, 0, 0)).1 = x)) j)) (nI j)) q.length (fun n => ?_) (fun n j hj hn => ?_)
    · unfold lX4_manyOf_4
      dsimp only
      rw [h4]
      exact ⟨fun _ => h1 hx, fun z => absurd ((z_le (by omega) (by omega)).mpr (Nat.le_refl _)) z⟩
    · have v := (hA j hj).1
      have hn' : lX4_manyOf_4 x Q n M (nI (fb_ct (fun j => decide (nI (q.getD j (0, 0, 0)).1 = x)) j + (if decide (nI (q.getD j (0, 0, 0)).1 = x) = true then 1 else 0))) (nI (j + 1)) := hn
      unfold lX4_manyOf_4 wX4_manyOf_27 wX4_manyOf_32
      dsimp only
      rw [h4]
      simp (disch := omega) only [z_le, z_in, z_cl, v, nI_1]
      refine ⟨fun z => absurd z (by omega), fun _ => ⟨fun z => absurd z hx, fun _ => ⟨by omega, fun z => ?_, fun z => ?_⟩⟩⟩
      · rw [decide_eq_false z, if_neg (by decide)] at hn'
        rw [show (0 : Int32) = nI 0 from rfl, z_add]; exact hn'
      · rw [decide_eq_true z, if_pos rfl] at hn'; exact hn'
-- what lies below, where
theorem aS_all {S : Nat → Bool} {i : Nat} (hO : aOK A) (hi : i < 10) (s0 : S i = true) (sl : ∀ C : Nat → Bool, C i = true → gC A (fun t => !false || aDir A t) C → ∀ t, t < 10 → S t = true → C t = true) (sc : gC A (fun t => !false || aDir A t) S) {t : Nat} (ht : t < 10) : S t = aS A i 10 t := by
  rw [Bool.eq_iff_iff]
  constructor
  · intro h
    exact sl (aS A i 10) aS_0 (fun k t hk h1 h2 h3 => aS_to hi (aEnt_lt hO hk h2) hk h1 h2) t ht h
  · intro h
    exact aS_in (A := A) (i := i) (C := fun t => S t = true) s0 (fun k t hk hc he => sc k t hk hc he rfl) 10 t h
theorem t_reachedAll {i : Nat} {Q : Int32 → xM → Prop} (hS : SV M A) (hO : aOK A) (hi : i < 10) (hq : Q (bs (aS A i 10) 10) M) : wX4_reached M (nI i) 0 Q := by
  refine t_reached (d := false) hS hO hi (fun S s0 sl sc => ?_)
  rw [bs_cong (fun t ht => aS_all hO hi s0 sl sc ht)]
  exact hq
theorem t_countOf {p : Nat → Bool} {n : Nat} {Q : Int32 → xM → Prop} (hn : n ≤ 30) (hq : Q (nI (fb_ct p n)) M) : wX4_countOf M (bs p n) Q := by
  have e : fb_ct (fun k => decide (k < n) && p k) 30 = fb_ct p n := by
    have h1 := fb_ct_split (fun k => decide (k < n) && p k) n (30 - n)
    rw [show n + (30 - n) = 30 by omega] at h1
    have h2 : fb_ct (fun k => decide (k < n) && p k) n = fb_ct p n := fb_ct_cong fun k hk => by simp [hk]
    have h3 : fb_ct (fun k => (fun k => decide (k < n) && p k) (n + k)) (30 - n) = 0 := fb_ct_zero.mpr fun k hk => by
      show (decide (n + k < n) && p (n + k)) = false
      rw [decide_eq_false (by omega)]; rfl
    rw [h1, h2, h3, Nat.add_zero]
  unfold wX4_countOf
  refine z_loop (P := fun m j => lX4_countOf_4 (bs p n) Q m M (nI (fb_ct (fun k => decide (k < n) && p k) j)) (nI j)) 30 (fun m => ?_) (fun m j hj hm => ?_)
  · unfold lX4_countOf_4
    simp (disch := omega) only [zl 30, z_le, Nat.le_refl, true_implies, not_true, false_implies, and_true]
    rw [e]; exact hq
  · have hm' : lX4_countOf_4 (bs p n) Q m M (nI (fb_ct (fun k => decide (k < n) && p k) j + (if (decide (j < n) && p j) = true then 1 else 0))) (nI (j + 1)) := hm
    have t := bt_test (bs p n) (i := j) (by omega)
    rw [bs_bt p (by omega) (by omega)] at t
    unfold lX4_countOf_4
    dsimp only
    rw [t]
    simp (disch := omega) only [zl 30, z_le, nI_1]
    refine ⟨fun z => absurd z (by omega), fun _ => ?_⟩
    by_cases c : (decide (j < n) && p j) = true
    · rw [if_pos c] at hm' ⊢
      rw [nI_1]; exact hm'
    · rw [if_neg c] at hm' ⊢
      rw [show (0 : Int32) = nI 0 from rfl, z_add]; exact hm'
theorem aBl_k {S : Nat → Bool} {b : Nat} : aBl A S b = anyN (fun k => S (k / 3) && aTo A b k) 30 := by
  unfold aBl aHas
  rw [Bool.eq_iff_iff, anyN_iff, anyN_iff]
  constructor
  · rintro ⟨i, hi, h⟩
    rw [Bool.and_eq_true] at h
    obtain ⟨p, hp, h3⟩ := anyN_iff.mp h.2
    exact ⟨3 * i + p, by omega, by rw [show (3 * i + p) / 3 = i by omega, h.1, h3]; rfl⟩
  · rintro ⟨k, hk, h⟩
    rw [Bool.and_eq_true] at h
    refine ⟨k / 3, by omega, ?_⟩
    rw [Bool.and_eq_true]
    refine ⟨h.1, anyN_iff.mpr ⟨k % 3, by omega, ?_⟩⟩
    rw [show 3 * (k / 3) + k % 3 = k by omega]; exact h.2
def aSz (A : Nat → Nat) (i : Nat) : Nat := fb_ct (aBl A (if aDir A i = true then aS A i 10 else (fun k => k == i))) 24
theorem t_blocksBelow {i : Nat} {Q : Int32 → xM → Prop} (hS : SV M A) (hO : aOK A) (hi : i < 10) (hq : Q (nI (aSz A i)) M) : wX4_blocksBelow M (nI i) Q := by
  have go : ∀ S : Nat → Bool, (∀ b, b < 24 → aBl A S b = aBl A (if aDir A i = true then aS A i 10 else (fun k => k == i)) b) → wX4_blocksBelow_21 (nI i) Q M (bs S 10) := fun S h => by
    unfold wX4_blocksBelow_21
    refine t_blocksOf hS hO (t_countOf (by omega) ?_)
    have e : fb_ct (fun b => anyN (fun k => S (k / 3) && aTo A b k) 30) 24 = aSz A i := by
      unfold aSz
      exact fb_ct_cong fun b hb => by rw [← h b hb, aBl_k]
    rw [e]; exact hq
  unfold wX4_blocksBelow
  refine t_isDirectory hS hO hi ⟨fun z => ?_, fun z => t_reachedAll hS hO hi ?_⟩
  · rw [bs_one (n := 10) (by omega) hi]
    refine go _ fun b _ => ?_
    rw [(bI_0 _).mp z, if_neg (by decide)]
    have : (fun k => decide (k = i)) = (fun k => k == i) := funext fun k => by
      rw [Bool.eq_iff_iff, decide_eq_true_eq, beq_iff_eq]
    rw [this]
  · refine go _ fun b _ => ?_
    rw [bI_ne z, if_pos rfl]
theorem t_depthOf {i : Nat} {Q : Int32 → xM → Prop} (hS : SV M A) (hO : aOK A) (hi : i < 10) (hz : aUse A i = true → aS A 0 10 i = true) (hq : Q (if A i = 0 then -9 else if fa_first (fun d => aS A 0 d i) 10 < 10 then nI (fa_first (fun d => aS A 0 d i) 10) else -9) M) : wX4_depthOf M (nI i) Q := by
  have v := hS.1 i hi
  have b := hO.1 i hi
  have g : i < 147 := by omega
  have h1 := hS.2.2.2.2.1
  unfold wX4_depthOf
  rw [show (0 : Int32) + nI i = nI i by rw [show (0 : Int32) = nI 0 from rfl, z_add, Nat.zero_add], z_cl (by omega), z_in (by omega) (by omega), v]
  refine ⟨g, fun z => ?_, fun z => ?_⟩
  · have z0 : ¬ A i = 0 := fun q => z (by rw [q]; rfl)
    have hr := hz (by unfold aUse; simp [z0])
    rw [aS_9 (by omega) i hi] at hr
    have hD : fa_first (fun d => aS A 0 d i) 10 < 10 := by
      refine Nat.lt_of_not_le fun q => ?_
      have := fa_first_no (fun d => aS A 0 d i) 10 9 (by omega)
      rw [hr] at this; cases this
    rw [if_neg z0, if_pos hD] at hq
    have hy := fa_first_yes (fun d => aS A 0 d i) 10 hD
    have hno := fa_first_no (fun d => aS A 0 d i) 10
    generalize fa_first (fun d => aS A 0 d i) 10 = D at hq hD hy hno
    have e1 : (1 : Int32) = bs (aS A 0 0) 10 := by
      have : bs (aS A 0 0) 10 = bs (fun t => t == 0) 10 := rfl
      rw [this]; decide
    have key := z_loop (P := fun n d => lX4_depthOf_18 (nI i) Q n M (bs (aS A 0 d) 10) (nI d)) D (fun n => ?_) (fun n d hd hn => ?_)
    · rw [← e1] at key; exact key
    · unfold lX4_depthOf_18 wX4_depthOf_111
      dsimp only
      rw [bs_test _ (by omega) hi, if_pos hy]
      exact ⟨fun _ => hq, fun q => absurd q (by decide)⟩
    · have hf := hno d hd
      unfold lX4_depthOf_18
      dsimp only
      rw [bs_test _ (by omega) hi, if_neg (by rw [hf]; decide)]
      simp (disch := omega) only [zl 10, z_le]
      refine ⟨fun q => absurd trivial q, fun _ => ⟨fun q => absurd q (by omega), fun _ => ?_⟩⟩
      have fin : (fun t => aS A 0 d t || anyN (fun k => aS A 0 d (k / 6) && aEnt A t k) 60) = aS A 0 (d + 1) := funext fun t => by
        rw [aS_s]
        congr 1
        rw [Bool.eq_iff_iff, anyN_iff, aNx_k]
        constructor
        · rintro ⟨k, a1, a2⟩
          rw [Bool.and_eq_true] at a2
          exact ⟨k, a1, a2.1, a2.2⟩
        · rintro ⟨k, a1, a2, a3⟩
          exact ⟨k, a1, by rw [a2, a3]; rfl⟩
      have e0 : bs (aS A 0 d) 10 = bs (fun t => aS A 0 d t || anyN (fun k => aS A 0 d (k / 6) && aEnt A t k) 0) 10 := bs_cong fun t _ => by show _ = (_ || false); rw [Bool.or_false]
      have key := z_loop (P := fun m j => lX4_depthOf_38 (nI i) Q (lX4_depthOf_18 (nI i) Q n) m M (bs (aS A 0 d) 10) (nI d) (bs (fun t => aS A 0 d t || anyN (fun k => aS A 0 d (k / 6) && aEnt A t k) j) 10) (nI j)) 60 (fun m => ?_) (fun m j hj hm => ?_)
      · rw [← e0] at key; exact key
      · unfold lX4_depthOf_38
        simp (disch := omega) only [zl 60, z_le, Nat.le_refl, true_implies, not_true, false_implies, and_true]
        rw [fin, nI_1]
        exact hn
      · have v := h1 j hj
        have b := hO.2.2.2.2.1 j hj
        have g : 60 + j < 147 := by omega
        have tst := bs_test (aS A 0 d) (n := 10) (i := j / 6) (by omega) (by omega)
        have eor : bs (fun t => aS A 0 d t || anyN (fun k => aS A 0 d (k / 6) && aEnt A t k) (j + 1)) 10 = bs (fun t => aS A 0 d t || anyN (fun k => aS A 0 d (k / 6) && aEnt A t k) j) 10 ||| bs (fun t => aS A 0 d (j / 6) && aEnt A t j) 10 := by
          rw [bs_or _ _ (by omega)]
          exact bs_cong fun t _ => by rw [anyN, Bool.or_assoc]
        rw [eor] at hm
        generalize bs (fun t => aS A 0 d t || anyN (fun k => aS A 0 d (k / 6) && aEnt A t k) j) 10 = acc at hm
        have zero : (∀ t, t < 10 → (aS A 0 d (j / 6) && aEnt A t j) = false) → lX4_depthOf_38 (nI i) Q (lX4_depthOf_18 (nI i) Q n) m M (bs (aS A 0 d) 10) (nI d) (acc ||| 0) (nI (j + 1)) := fun hz => by
          rw [(bs_zero (by omega)).mpr hz] at hm; exact hm
        unfold lX4_depthOf_38 wX4_depthOf_92 wX4_depthOf_93
        dsimp only
        simp (disch := omega) only [zl 60, zl 6, zl 147, z_le, z_add, z_in, z_cl, z_div, v, g, true_and, tst, nI_1, eM_m1]
        refine ⟨fun z => absurd z (by omega), fun _ => ⟨fun z => zero (fun t _ => ?_), fun z => ⟨fun z2 => zero (fun t _ => ?_), fun z2 => ?_⟩⟩⟩
        · cases hg : aS A 0 d (j / 6) with
          | false => rfl
          | true => rw [hg] at z; exact absurd rfl z
        · unfold aEnt; simp [z2]
        · have hg : aS A 0 d (j / 6) = true := by
            cases hg : aS A 0 d (j / 6) with
            | true => rfl
            | false => rw [hg] at z; exact absurd z (by decide)
          rw [eM_some z2]
          simp (disch := omega) only [zl 26, z_div]
          rw [← bs_en z2 b]
          have e : bs (fun t => aS A 0 d (j / 6) && aEnt A t j) 10 = bs (fun t => aEnt A t j) 10 := bs_cong fun t _ => by rw [hg]; rfl
          rw [e] at hm; exact hm
  · have z0 : A i = 0 := (z_eq (b := 0) (by omega) (by omega)).mp z
    rw [if_pos z0] at hq; exact hq
theorem ct_but {p : Nat → Bool} {i n : Nat} (hi : i < n) (hp : p i = true) : fb_ct (fun k => p k && !decide (k = i)) n + 1 = fb_ct p n := by
  have h := fb_ct_upd p false hi
  rw [hp] at h
  have e : (fun k => if k = i then false else p k) = (fun k => p k && !decide (k = i)) := funext fun k => by
    by_cases q : k = i
    · simp [q]
    · simp [q]
  rw [e] at h
  simpa using h
end TH
