/-! what is lost, the worst reason, the judge, mending by wiping, what an inode is -/
section K5
variable {M : xM}
theorem k_loses {a : Int32} (h : Inv M) : wX3_loses M a (fun r M1 => wX4_loses M1 a (fun r2 M2 => r = r2 ∧ Inv M2)) := by
  have h0 := h
  obtain ⟨hR, A, rf, hV⟩ := h
  have hJ := pChk_J (rf := rf) hV.2.1
  unfold wX3_loses
  refine k_outA (N := 3) (by omega) (fun ha => ?_) (fun ha => ?_)
  · refine c_run hV (fun M1 k1 s1 i1 c1 => ?_)
    have hO := hV.2.1
    have hCB : CV M1 23 (pChk rf A).1 := k1.1
    obtain ⟨B, hB⟩ : ∃ B, B = (pChk rf A).1 := ⟨_, rfl⟩
    rw [← hB] at hJ hCB
    have hA1 := i1.1
    have lA := fb_ct_le (aFull A) 60
    have lB := fb_ct_le (aFull B) 60
    have val : Int32 := 0
    have ref : ∀ r : Int32, (a = 0 → r = nI (fb_ct (fun i => aUse A i && !aUse B i) 10)) → (a = 1 → r = nI (fb_ct (fun b => aPt A b && !aPt B b) 24)) → (¬ a = 0 → ¬ a = 1 → r = (if 0 < nI (fb_ct (aFull A) 60) - nI (fb_ct (aFull B) 60) then nI (fb_ct (aFull A) 60) - nI (fb_ct (aFull B) 60) else 0)) → wX4_loses M1 a (fun r2 M2 => r = r2 ∧ Inv M2) := by
      intro r r0 r1 r2
      unfold wX4_loses
      refine t_inA (n := 2) (by omega) (fun _ => ?_) (fun q => absurd ha q)
      refine r_keep i1.2.2.2.2.1 i1.2.2.2.2.2 (fun M2 f2 s2 t2 o2 => ?_)
      rw [b1023]
      refine t_blocksOf s2 hO (t_entries s2 hO ?_)
      refine r_chk s2 hO t2 f2 (fun M3 k3 f3 d3 => ?_)
      have kS : SV M3 B := by rw [hB]; exact k3.1
      have kO : aOK B := hJ.1.1
      have dd : dOff M1 M3 := dOff_tr (dOff_53 o2) d3
      have back : ∀ v : Int32, r = v → wX4_loses_141 a (fun r2 M2 => r = r2 ∧ Inv M2) M3 v := fun v hv => by
        unfold wX4_loses_141
        exact r_back f3 (fun M4 s4 t4 f4 o4 => ⟨hv, inv_q hR c1 i1 (dOff_tr dd (dOff_51 o4)) s4 t4⟩)
      have e1 : bs (fun b => anyN (fun k => (fun _ : Nat => true) (k / 3) && aTo A b k) 30) 24 = bs (aPt A) 24 := bs_cong fun b _ => aPt_all
      rw [e1]
      refine z_loop (P := fun n j => lX4_loses_44 a _ n M3 (bs (aPt A) 24) (nI (fb_ct (aFull A) 60)) (nI (fb_ct (fun i => aUse A i && !aUse B i) j)) (nI j)) 10 (fun n => ?_) (fun n j hj hn => ?_)
      · unfold lX4_loses_44
        simp (disch := omega) only [zl 10, z_le, Nat.le_refl, true_implies, not_true, false_implies, and_true]
        refine t_entries kS kO ⟨fun z => ⟨fun z1 => ⟨fun z2 => back _ ?_, fun z2 => back _ ?_⟩, fun z1 => ?_⟩, fun z => back _ (r0 z)⟩
        · rw [r2 z z1]
          by_cases q : 0 < nI (fb_ct (aFull A) 60) - nI (fb_ct (aFull B) 60)
          · rw [if_pos q]
          · rw [if_neg q]
            rw [Int32.le_iff_toInt_le] at z2
            rw [Int32.lt_iff_toInt_lt] at q
            rw [← Int32.toInt_inj]; omega
        · rw [r2 z z1, if_neg]
          intro q
          rw [Int32.le_iff_toInt_le] at z2
          rw [Int32.lt_iff_toInt_lt] at q
          omega
        · rw [b1023]
          refine t_blocksOf kS kO ?_
          have e2 : bs (fun b => anyN (fun k => (fun _ : Nat => true) (k / 3) && aTo B b k) 30) 24 = bs (aPt B) 24 := bs_cong fun b _ => aPt_all
          rw [e2, bs_andn _ _ (by omega)]
          exact t_countOf (by omega) (back _ (r1 z1))
      · have v := f3.1.1 j hj
        have w := kS.1 j hj
        have b1 := hO.1 j hj
        have b2 := kO.1 j hj
        have g : j < 147 := by omega
        have hn' : lX4_loses_44 a _ n M3 (bs (aPt A) 24) (nI (fb_ct (aFull A) 60)) (nI (fb_ct (fun i => aUse A i && !aUse B i) j + (if (aUse A j && !aUse B j) = true then 1 else 0))) (nI (j + 1)) := hn
        unfold lX4_loses_44 wX4_loses_81 wX4_loses_82
        simp (disch := omega) only [zl, z_le, z_add, Nat.zero_add, z_in, z_cl, v, w, z_eq, g, true_and]
        refine ⟨fun z => absurd z (by omega), fun _ => ⟨fun z => ?_, fun z => ⟨fun z2 => ?_, fun z2 => ?_⟩⟩⟩
        · have e : aUse A j = false := by unfold aUse; simp [z]
          rw [e] at hn'; exact hn'
        · have e : aUse B j = true := by unfold aUse; simp [z2]
          rw [e, Bool.not_true, Bool.and_false] at hn'; exact hn'
        · have e : aUse A j = true := by unfold aUse; simp [z]
          have e' : aUse B j = false := by unfold aUse; simp [z2]
          rw [e, e'] at hn'; exact hn'
    refine ⟨fun z => ⟨fun z1 => ?_, fun z1 => ?_⟩, fun z => ?_⟩
    · refine r_entriesInAll (v := 1) hA1 hO (r_entriesInAll (v := 23) hCB hJ.1.1 ?_)
      exact ref _ (fun q => absurd q z) (fun q => absurd q z1) (fun _ _ => rfl)
    · refine r_blocksPointedAt (v := 1) xVol_at1 hA1 hO (r_blocksPointedAt (v := 23) xVol_at23 hCB hJ.1.1 ?_)
      rw [bs_andn _ _ (by omega)]
      exact ct_pop (by omega) _ (ref _ (fun q => absurd q z) (fun _ => rfl) (fun _ q => absurd z1 q))
    · refine r_inodesInUse (v := 1) hA1 hO (r_inodesInUse (v := 23) hCB hJ.1.1 ?_)
      rw [bs_andn _ _ (by omega)]
      exact ct_pop (by omega) _ (ref _ (fun _ => rfl) (fun q => absurd (z.symm.trans q) (by decide)) (fun q => absurd z q))
  · unfold wX4_loses
    refine k_ref (n := 2) (by omega) ?_
    exact t_inA (n := 2) (by omega) (fun q => absurd q ha) (fun _ => fin_ref (by omega) h0)
def wM (c : Nat → Nat) (w : Nat) : Nat := if w = 0 then 0 else c w
def wW (c : Nat → Nat) : Nat → Nat
  | 0 => 0
  | j + 1 => if wM c (wW c j) < c (j + 1) then j + 1 else wW c j
theorem wW_le (c : Nat → Nat) : ∀ j, wW c j ≤ j
  | 0 => Nat.le_refl 0
  | j + 1 => by
    have := wW_le c j
    show (if wM c (wW c j) < c (j + 1) then j + 1 else wW c j) ≤ j + 1
    split <;> omega
theorem k_worst (h : Inv M) : wX3_worst M (fun r M1 => wX4_worst M1 (fun r2 M2 => r = r2 ∧ Inv M2)) := by
  obtain ⟨hR, A, rf, hV⟩ := h
  have hl := pChk_len rf A
  unfold wX3_worst
  refine c_run hV (fun M1 k1 s1 i1 c1 => ?_)
  have e4 : M1 22 4 = nI (pChk rf A).2.length := k1.2.2.1
  have q1 : qAt M1 30 31 32 (pChk rf A).2 := k1.2.2.2.2
  generalize hq : (pChk rf A).2 = q at e4 q1 hl
  have hcb : ∀ x, qc q x ≤ 175 := fun x => Nat.le_trans (fb_ct_le _ _) hl
  obtain ⟨c, hc⟩ : ∃ c : Nat → Nat, c = fun r => qc q (nI r) := ⟨_, rfl⟩
  have hcc : ∀ r, c r ≤ 175 := fun r => by rw [hc]; exact hcb _
  have hc1 : ∀ r, qc q (nI r) = c r := fun r => by rw [hc]
  have key := z_loop (P := fun n j => lX3_worst_22 (fun r M1 => wX4_worst M1 (fun r2 M2 => r = r2 ∧ Inv M2)) n M1 (nI (wM c (wW c j))) (if wW c j = 0 then -9 else nI (wW c j)) (nI (j + 1))) 16 (fun n => ?_) (fun n j hj hn => ?_)
  · exact key
  · unfold lX3_worst_22
    dsimp only
    refine ⟨fun _ => ?_, fun z => absurd (show (16 : Int32) < nI (16 + 1) by decide) z⟩
    unfold wX4_worst
    refine r_thinks i1.2.2.2.2.1 hV.2.1 i1.2.2.2.2.2 (fun M2 s2 t2 a2 q2 d2 => ?_)
    have fin := inv_q hR c1 i1 d2 s2 t2
    rw [hq] at a2 q2
    obtain ⟨res, hres⟩ : ∃ res : Int32, res = (if wW c 16 = 0 then -9 else nI (wW c 16)) := ⟨_, rfl⟩
    rw [← hres]
    have key := z_loop (P := fun n j => lX4_worst_9 (fun r2 M2 => res = r2 ∧ Inv M2) n M2 (if wW c j = 0 then -9 else nI (wW c j)) (nI (j + 1))) 16 (fun n => ?_) (fun n j hj hn => ?_)
    · exact key
    · unfold lX4_worst_9
      dsimp only
      exact ⟨fun _ => ⟨hres, fin⟩, fun z => absurd (show (16 : Int32) < nI (16 + 1) by decide) z⟩
    · have hw := wW_le c j
      have hn' : lX4_worst_9 (fun r2 M2 => res = r2 ∧ Inv M2) n M2 (if (if (wM c (wW c j)) < c (j + 1) then j + 1 else wW c j) = 0 then -9 else nI (if (wM c (wW c j)) < c (j + 1) then j + 1 else wW c j)) (nI (j + 1 + 1)) := hn
      have hj1 := hcc (j + 1)
      have hj2 := hcc (wW c j)
      have ne0 : ¬ nI (j + 1) = 0 := by rw [show (0 : Int32) = nI 0 from rfl, z_eq (by omega) (by omega)]; omega
      have many : ∀ Q : Int32 → xM → Prop, Q (nI (c (j + 1))) M2 → wX4_manyOf M2 (nI (j + 1)) Q := fun Q hQ => t_manyOf a2 q2 hl (fun z => absurd z ne0) (fun _ => by rw [hc1]; exact hQ)
      have no : ¬ (wM c (wW c j)) < c (j + 1) → wX4_worst_46 (fun r2 M2 => res = r2 ∧ Inv M2) (lX4_worst_9 (fun r2 M2 => res = r2 ∧ Inv M2) n) M2 (if wW c j = 0 then -9 else nI (wW c j)) (nI (j + 1)) := fun z => by
        rw [if_neg z] at hn'
        unfold wX4_worst_46 wX4_worst_47 wX4_worst_57
        rw [nI_1]
        exact ⟨fun _ => hn', fun z => absurd rfl z⟩
      have yes : (wM c (wW c j)) < c (j + 1) → wX4_worst_42 (fun r2 M2 => res = r2 ∧ Inv M2) (lX4_worst_9 (fun r2 M2 => res = r2 ∧ Inv M2) n) M2 (if wW c j = 0 then -9 else nI (wW c j)) (nI (j + 1)) := fun z => by
        rw [if_pos z, if_neg (show ¬ j + 1 = 0 by omega)] at hn'
        unfold wX4_worst_42 wX4_worst_47 wX4_worst_57
        rw [nI_1]
        exact ⟨fun z => absurd z (by decide), fun _ => hn'⟩
      unfold lX4_worst_9
      dsimp only
      rw [show (16 : Int32) = nI 16 from rfl, z_lt (by omega) (by omega)]
      refine ⟨fun z => absurd z (by omega), fun _ => many _ ?_⟩
      rw [show (0 : Int32) = nI 0 from rfl, z_le (by omega) (by omega)]
      refine ⟨fun z => no ?_, fun z => ⟨fun z2 => yes ?_, fun z2 => many _ ?_⟩⟩
      · omega
      · have : wW c j = 0 := by
          by_cases e : wW c j = 0
          · exact e
          · rw [if_neg e, show (-9 : Int32) = -nI 9 from rfl, z_neq (by omega) (by omega) (by omega)] at z2; exact z2.elim
        have e : wM c (wW c j) = 0 := by unfold wM; rw [if_pos this]
        rw [e]; omega
      · have e0 : ¬ wW c j = 0 := fun e => z2 (by rw [if_pos e])
        have ne2 : ¬ nI (wW c j) = 0 := by rw [show (0 : Int32) = nI 0 from rfl, z_eq (by omega) (by omega)]; exact e0
        have ew : wM c (wW c j) = c (wW c j) := by unfold wM; rw [if_neg e0]
        rw [ew, if_neg e0] at no yes
        rw [if_neg e0]
        refine t_manyOf a2 q2 hl (fun z => absurd z ne2) (fun _ => ?_)
        rw [hc1, z_le (by omega) (by omega)]
        exact ⟨fun z3 => no (by omega), fun z3 => yes (by omega)⟩
  · have hw := wW_le c j
    have hn' : lX3_worst_22 (fun r M1 => wX4_worst M1 (fun r2 M2 => r = r2 ∧ Inv M2)) n M1 (nI (wM c (if (wM c (wW c j)) < c (j + 1) then j + 1 else wW c j))) (if (if (wM c (wW c j)) < c (j + 1) then j + 1 else wW c j) = 0 then -9 else nI (if (wM c (wW c j)) < c (j + 1) then j + 1 else wW c j)) (nI (j + 1 + 1)) := hn
    have hj1 := hcc (j + 1)
    have hj2 := hcc (wW c j)
    have hm : wM c (wW c j) ≤ 175 := by unfold wM; split <;> omega
    unfold lX3_worst_22 wX3_worst_49
    dsimp only
    rw [show (16 : Int32) = nI 16 from rfl, z_lt (by omega) (by omega), nI_1]
    refine ⟨fun z => absurd z (by omega), fun _ => r_askedFor (c := 22) e4 q1 hl ?_⟩
    rw [hc1, z_le (by omega) (by omega)]
    refine ⟨fun z => ?_, fun z => ?_⟩
    · rw [if_neg (show ¬ wM c (wW c j) < c (j + 1) by omega)] at hn'; exact hn'
    · rw [if_pos (show wM c (wW c j) < c (j + 1) by omega), if_neg (show ¬ j + 1 = 0 by omega)] at hn'
      have e : wM c (j + 1) = c (j + 1) := by unfold wM; rw [if_neg (by omega)]
      rw [e] at hn'; exact hn'
theorem IR_0 {M2 : xM} (h : IR M) (e : ∀ p, (15 ≤ p ∧ p ≤ 21) ∨ (46 ≤ p ∧ p ≤ 49) ∨ p = 52 ∨ p = 54 ∨ p = 55 ∨ p = 59 → M2 p = M p) (e3 : M2 0 3 = M 0 3) (e4 : M2 0 4 = M 0 4) (e5 : M2 50 4 = M 50 4) (e7 : M2 50 7 = M 50 7) (z9 : M2 0 9 = 0) (z16 : M2 50 16 = 0) : IR M2 := by
  obtain ⟨h1, h2, h3, h4⟩ := h
  exact ⟨IRt_eq h1 (fun p hp => e p (by omega)) e3 e4 e5, ⟨0, by omega, z9, z16, fun j hj => absurd hj (Nat.not_lt_zero j)⟩, IRl_eq h3 (by rw [e 46 (by omega)]) e7 (e 47 (by omega)) (e 55 (by omega)), IRc_eq h4 (e 49 (by omega)) (e 54 (by omega))⟩
theorem k_judge (h : Inv M) : wX3_judge M (fun r M1 => wX4_judge M1 (fun r2 M2 => r = r2 ∧ Inv M2)) := by
  obtain ⟨hR, A, rf, hV⟩ := h
  have hR0 := hR
  obtain ⟨hR1, ⟨nr, b1, b2, b3, b4⟩, hR3, hR4⟩ := hR
  have hJ := pChk_J (rf := rf) hV.2.1
  unfold wX3_judge
  refine c_run hV (fun M1 k1 s1 i1 c1 => ?_)
  have z9 : M1 0 9 = nI nr := by rw [s1 0 (by omega)]; exact b2
  have o48 : M1 48 = M 48 := s1 48 (by omega)
  have o59 : M1 59 = M 59 := s1 59 (by omega)
  have o50 : M1 50 = M 50 := s1 50 (by omega)
  have hC : CV M1 23 (pChk rf A).1 := k1.1
  obtain ⟨B, hB⟩ : ∃ B, B = (pChk rf A).1 := ⟨_, rfl⟩
  rw [← hB] at hC
  have vl : ∀ j, j < 10 → M1 25 j = nI (B (10 + j)) := hC.2.1
  obtain ⟨bad, hbad⟩ : ∃ bad : Nat → Bool, bad = fun k => decide (10 ≤ k) || !decide (M 48 k = nI (B (10 + k))) := ⟨_, rfl⟩
  obtain ⟨D, hD⟩ : ∃ D, D = fa_first bad nr := ⟨_, rfl⟩
  obtain ⟨res, hres⟩ : ∃ res : Int32, res = (if D < nr then nI D else -9) := ⟨_, rfl⟩
  have ref : ∀ r : Int32, r = res → wX4_judge (xup M1 0 9 0) (fun r2 M2 => r = r2 ∧ Inv M2) := by
    intro r hr
    have i2 : IV (xup M1 0 9 0) A rf := ⟨CV_same i1.1 fun d hd => xup_n (by omega), i1.2.1, i1.2.2.1, by rw [xup_at, upd, if_neg (by omega)]; exact i1.2.2.2.1, SV_same i1.2.2.2.2.1 (xup_n (by omega)), by rw [xup_n (by omega)]; exact i1.2.2.2.2.2⟩
    unfold wX4_judge
    refine r_think i2.2.2.2.2.1 hV.2.1 i2.2.2.2.2.2 (fun M2 k2 f2 d2 => ?_)
    have kS : SV M2 B := by rw [hB]; exact k2.1
    have e16 : M2 50 16 = nI nr := by
      rw [d2.2 16 (by omega) (by omega) (by omega) (by omega) (by omega), xup_n (by omega), o50]; exact b3
    have e59 : M2 59 = M 59 := by
      rw [d2.1 59 (by omega) (by omega) (by omega) (by omega) (by omega) (by omega), xup_n (by omega), o59]
    rw [e16, Int32.sub_eq_add_neg]
    have bw : ∀ k, k < nr → M 59 k = M 48 k := fun k hk => by
      obtain ⟨x, _, x1, x2⟩ := b4 k hk
      rw [x1, x2]
    have key := z_loop (P := fun n m => ∀ f : Int32, (f = -9 ∧ ∀ k, nr - m ≤ k → k < nr → bad k = false) ∨ (∃ g, f = nI g ∧ g < nr ∧ nr - m ≤ g ∧ bad g = true ∧ ∀ k, nr - m ≤ k → k < g → bad k = false) → lX4_judge_19 (fun r2 M2 => r = r2 ∧ Inv M2) n M2 f (nI (nr - m) + (-1))) nr (fun n f hf => ?_) (fun n m hm hn f hf => ?_)
    · obtain ⟨n, hn⟩ := key
      exact ⟨n, hn (-9) (Or.inl ⟨rfl, fun k q1 q2 => absurd q2 (by omega)⟩)⟩
    · unfold lX4_judge_19
      dsimp only
      rw [Nat.sub_self] at hf ⊢
      refine ⟨fun _ => r_back f2 (fun M3 s3 t3 f3 o3 => ⟨?_, ?_⟩), fun z => absurd (show nI 0 + (-1) < 0 by decide) z⟩
      · rw [hr, hres, hD]
        rcases hf with ⟨q1, q2⟩ | ⟨g, q1, q2, q3, q4, q5⟩
        · rw [if_neg (ff_none fun k hk => q2 k (by omega) hk), q1]
        · rw [ff_is (fun k hk => q5 k (by omega) hk) q4 q2, if_pos q2, q1]
      · have dd : dOff (xup M1 0 9 0) M3 := dOff_tr d2 (dOff_51 o3)
        have oo : ∀ p, p ≠ 0 → p ≠ 50 → p ≠ 51 → p ≠ 53 → p ≠ 56 → p ≠ 57 → p ≠ 58 → ¬ (22 ≤ p ∧ p ≤ 33) → xup M3 50 16 0 p = M p := fun p x0 x1 x2 x3 x4 x5 x6 x7 => by
          rw [xup_n x1, dd.1 p x1 x2 x3 x4 x5 x6, xup_n x0]; exact s1 p x7
        have o5 : ∀ j, j ≠ 8 → j ≠ 9 → j ≠ 10 → j ≠ 14 → j ≠ 16 → j ≠ 17 → xup M3 50 16 0 50 j = M 50 j := fun j x1 x2 x3 x4 x5 x6 => by
          rw [xup_at, upd, if_neg x5, dd.2 j x1 x2 x3 x4 x6, xup_n (by omega), o50]
        have oz : ∀ j, xup M3 50 16 0 0 j = xup M1 0 9 0 0 j := fun j => by
          rw [xup_n (by omega), dd.1 0 (by omega) (by omega) (by omega) (by omega) (by omega) (by omega)]
        have oz' : ∀ j, j ≠ 9 → xup M3 50 16 0 0 j = M 0 j := fun j hj => by
          rw [oz, xup_at, upd, if_neg hj, s1 0 (by omega)]
        refine ⟨IR_0 hR0 (fun p hp => oo p (by omega) (by omega) (by omega) (by omega) (by omega) (by omega) (by omega) (by omega)) (oz' 3 (by omega)) (oz' 4 (by omega)) (o5 4 (by omega) (by omega) (by omega) (by omega) (by omega) (by omega)) (o5 7 (by omega) (by omega) (by omega) (by omega) (by omega) (by omega)) ?_ ?_, A, rf, CV_same hV.1 fun d hd => oo _ (by omega) (by omega) (by omega) (by omega) (by omega) (by omega) (by omega) (by omega), hV.2.1, hV.2.2.1, (oz' 11 (by omega)).trans hV.2.2.2.1, SV_same s3 (xup_n (by omega)), ?_⟩
        · rw [oz, xup_at, upd, if_pos rfl]
        · rw [xup_at, upd, if_pos rfl]
        · rw [xup_n (by omega)]; exact t3
    · have e1 : nI (nr - m) + (-1) = nI (nr - m - 1) := by
        rw [show nr - m = (nr - m - 1) + 1 by omega]; exact nI_m1 _
      have hst := hn (if bad (nr - m - 1) = true then nI (nr - m - 1) else f)
      rw [show nr - (m + 1) = nr - m - 1 by omega] at hst
      have hst2 : lX4_judge_19 (fun r2 M2 => r = r2 ∧ Inv M2) n M2 (if bad (nr - m - 1) = true then nI (nr - m - 1) else f) (nI (nr - m - 1) + (-1)) := by
        refine hst ?_
        by_cases z : bad (nr - m - 1) = true
        · rw [if_pos z]
          exact Or.inr ⟨nr - m - 1, rfl, by omega, by omega, z, fun k q1 q2 => absurd q2 (by omega)⟩
        · rw [if_neg z]
          have z' : bad (nr - m - 1) = false := by simpa using z
          rcases hf with ⟨q1, q2⟩ | ⟨g, q1, q2, q3, q4, q5⟩
          · refine Or.inl ⟨q1, fun k w1 w2 => ?_⟩
            rcases Nat.lt_or_ge k (nr - m) with q | q
            · rw [show k = nr - m - 1 by omega]; exact z'
            · exact q2 k q w2
          · refine Or.inr ⟨g, q1, q2, by omega, q4, fun k w1 w2 => ?_⟩
            rcases Nat.lt_or_ge k (nr - m) with q | q
            · rw [show k = nr - m - 1 by omega]; exact z'
            · exact q5 k q w2
      unfold lX4_judge_19 wX4_judge_47 wX4_judge_52
      dsimp only
      rw [e1]
      have hk : nr - m - 1 < nr := by omega
      generalize nr - m - 1 = k at hst2 hk
      rw [show (0 : Int32) = nI 0 from rfl, z_lt (by omega) (by omega), show (9 : Int32) = nI 9 from rfl, z_lt (by omega) (by omega)]
      refine ⟨fun z => absurd z (by omega), fun _ => ⟨fun z => ?_, fun z => ?_⟩⟩
      · have : bad k = true := by rw [hbad]; show (decide (10 ≤ k) || _) = true; rw [decide_eq_true (by omega)]; rfl
        rw [if_pos this] at hst2; exact hst2
      · have w := kS.2.1 k (by omega)
        have g1 : 10 + k < 147 := by omega
        rw [show (10 : Int32) + nI k = nI (10 + k) from z_add 10 k, z_cl (by omega), z_cl (by omega), z_in (by omega) (by omega), z_in (by omega) (by omega), w, e59, bw k hk]
        have e : bad k = !decide (M 48 k = nI (B (10 + k))) := by rw [hbad]; show (decide (10 ≤ k) || _) = _; rw [decide_eq_false (by omega)]; rfl
        refine ⟨g1, by omega, fun z2 => ?_, fun z2 => ?_⟩
        · rw [if_neg (by rw [e, decide_eq_true z2.symm]; decide)] at hst2; exact hst2
        · rw [if_pos (by rw [e, decide_eq_false (fun q => z2 q.symm)]; rfl)] at hst2; exact hst2
  have key := z_loop (P := fun n j => ((∀ k, k < j → bad k = false) → lX3_judge_20 (fun r M1 => wX4_judge M1 (fun r2 M2 => r = r2 ∧ Inv M2)) n M1 (-9) (nI j)) ∧ (nI D = res → j ≤ nr → lX3_judge_20 (fun r M1 => wX4_judge M1 (fun r2 M2 => r = r2 ∧ Inv M2)) n M1 (nI D) (nI j))) nr (fun n => ⟨fun hb => ?_, fun hD2 _ => ?_⟩) (fun n j hj hn => ⟨fun hb => ?_, fun hD2 _ => ?_⟩)
  · obtain ⟨n, hn⟩ := key
    exact ⟨n, hn.1 fun k hk => absurd hk (Nat.not_lt_zero k)⟩
  · unfold lX3_judge_20 wX3_judge_69
    dsimp only
    rw [z9]
    exact ⟨fun _ => ref _ (by rw [hres, hD, if_neg (ff_none hb)]), fun z => absurd ((z_le (by omega) (by omega)).mpr (Nat.le_refl _)) z⟩
  · unfold lX3_judge_20 wX3_judge_69
    dsimp only
    rw [z9]
    exact ⟨fun _ => ref _ hD2, fun z => absurd ((z_le (by omega) (by omega)).mpr (Nat.le_refl _)) z⟩
  · have found : bad j = true → wX3_judge_61 (fun r M1 => wX4_judge M1 (fun r2 M2 => r = r2 ∧ Inv M2)) (lX3_judge_20 (fun r M1 => wX4_judge M1 (fun r2 M2 => r = r2 ∧ Inv M2)) n) M1 (nI j) := fun z => by
      have e : D = j := by rw [hD]; exact ff_is hb z hj
      have e2 : nI D = res := by rw [hres, if_pos (by omega)]
      have := hn.2 e2 (by omega)
      unfold wX3_judge_61 wX3_judge_63
      rw [nI_1, ← e]
      rw [e] at this ⊢
      exact this
    have next : bad j = false → lX3_judge_20 (fun r M1 => wX4_judge M1 (fun r2 M2 => r = r2 ∧ Inv M2)) n M1 (-9) (nI (j + 1)) := fun z => hn.1 (lt_snoc hb z)
    unfold lX3_judge_20 wX3_judge_63
    dsimp only
    rw [z9, nI_1, show (10 : Int32) = nI 10 from rfl, z_le (by omega) (by omega), z_le (by omega) (by omega), z_cl (by omega), z_in (by omega) (by omega), z_in (by omega) (by omega), o48]
    refine ⟨fun z => absurd z (by omega), fun _ => ⟨fun z => absurd rfl z, fun _ => ⟨fun z => found ?_, fun z => ⟨by omega, by omega, fun z2 => next ?_, fun z2 => found ?_⟩⟩⟩⟩
    · rw [hbad]; show (decide (10 ≤ j) || _) = true; rw [decide_eq_true z]; rfl
    · rw [vl j (by omega)] at z2
      rw [hbad]; show (decide (10 ≤ j) || !decide (M 48 j = nI (B (10 + j)))) = false
      rw [decide_eq_false z, decide_eq_true z2]; rfl
    · rw [vl j (by omega)] at z2
      rw [hbad]; show (decide (10 ≤ j) || !decide (M 48 j = nI (B (10 + j)))) = true
      rw [decide_eq_false z, decide_eq_false z2]; rfl
  · have n9 : ¬ nI D = (-9 : Int32) := by
      have := fa_first_le bad nr
      rw [show (-9 : Int32) = -nI 9 from rfl, z_neq (by omega) (by omega) (by omega)]; exact id
    unfold lX3_judge_20 wX3_judge_69
    dsimp only
    exact ⟨fun _ => ref _ hD2, fun _ => ⟨fun _ => ref _ hD2, fun z => absurd z n9⟩⟩
end K5
