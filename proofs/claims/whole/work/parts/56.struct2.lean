/-! connections: every round reaches or loses one; what holds behind a check -/
section SW
variable {A : Nat → Nat} {rf : Nat → Bool} {T : aT}
theorem pApart_iff {t : Nat} : pApart A t = true ↔ aDir A t = true ∧ aS A 0 10 t = false := by
  unfold pApart
  rw [Bool.and_eq_true, Bool.not_eq_true']
theorem pAlone_iff {t : Nat} : pAlone A t = true ↔ pApart A t = true ∧ aNx A (fun _ => true) t = false := by
  unfold pAlone
  rw [Bool.and_eq_true, Bool.not_eq_true']
theorem pPick_apart (h : anyN (pApart A) 10 = true) : pPick A < 10 ∧ pApart A (pPick A) = true := by
  unfold pPick
  by_cases z : anyN (pAlone A) 10 = true
  · rw [if_pos z]
    have := fa_at z
    exact ⟨this.1, (pAlone_iff.mp this.2).1⟩
  · rw [if_neg z]
    exact fa_at h
/-- the entry to one is taken away -/
def cCut (A : Nat → Nat) (i : Nat) : Nat → Nat := if fa_first (aEnt A i) 60 < 60 then aUp A (60 + fa_first (aEnt A i) 60) 260 else A
theorem pCut_1 (i : Nat) : (pCut T i).1 = cCut T.1 i := by
  unfold pCut cCut; split <;> rfl
theorem cCut_low {i q : Nat} (h : ¬ (60 ≤ q ∧ q < 120)) : cCut A i q = A q := by
  unfold cCut aUp; split
  · exact if_neg (by omega)
  · rfl
theorem cCut_ok {i : Nat} (hO : aOK A) : aOK (cCut A i) := by
  unfold cCut; split
  · exact aOK_ent hO ‹_› (by omega)
  · exact hO
/-- a slot stands, or is the one -/
theorem cCut_slot {i k : Nat} (hk : k < 60) : cCut A i (60 + k) = A (60 + k) ∨ (aEnt A i k = true ∧ cCut A i (60 + k) = 260) := by
  unfold cCut
  split
  · rename_i h
    unfold aUp
    by_cases e : 60 + k = 60 + fa_first (aEnt A i) 60
    · have e2 : k = fa_first (aEnt A i) 60 := by omega
      rw [if_pos e]
      have := fa_first_yes (aEnt A i) 60 h
      rw [← e2] at this
      exact Or.inr ⟨this, rfl⟩
    · rw [if_neg e]; exact Or.inl rfl
  · exact Or.inl rfl
theorem cCut_J {i : Nat} (hJ : aJ A) : aJ (cCut A i) := by
  refine ⟨cCut_ok hJ.1, by rw [aDir_cong (cCut_low (by omega))]; exact hJ.2.1, fun k hk hf => ?_⟩
  rw [aDir_cong (cCut_low (by omega))]
  rcases cCut_slot (A := A) (i := i) hk with h | ⟨_, h⟩
  · rw [aFull_cong h] at hf; exact hJ.2.2 k hk hf
  · unfold aFull at hf; rw [h] at hf; exact absurd hf (by decide)
theorem aWipe_low {i kd q : Nat} (h : q < 10) : aWipe A i kd q = if q = i then kd else A q := by
  unfold aWipe
  by_cases e : q = i
  · rw [if_pos e, if_pos e]
  · rw [if_neg e, if_neg e, if_neg (by omega), if_neg (by omega), if_neg (by omega), if_neg (by omega)]
theorem aWipe_slot {i kd k : Nat} (hi : i < 10) (hk : k < 60) : aWipe A i kd (60 + k) = if k / 6 = i then 260 else A (60 + k) := by
  unfold aWipe
  rw [if_neg (by omega), if_neg (by omega), if_neg (by omega), if_neg (by omega)]
  by_cases e : k / 6 = i
  · rw [if_pos (by omega), if_pos e]
  · rw [if_neg (by omega), if_neg e]
theorem pAtt_low {i q : Nat} (hO : aOK A) (hq : q < 10) : (pAtt A i).1 q = if (pAtt A i).2 = 6 ∧ q = i then 0 else A q := by
  have h6 := pSlot_6 (hO.1 0 (by omega))
  unfold pAtt
  split
  · unfold aUp
    dsimp only
    rw [if_neg (by omega), if_neg (by omega)]
  · show aWipe A i 0 q = if 6 = 6 ∧ q = i then 0 else A q
    rw [aWipe_low hq]
    by_cases e : q = i
    · rw [if_pos e, if_pos ⟨rfl, e⟩]
    · rw [if_neg e, if_neg (fun z => e z.2)]
theorem pAtt_slot {i k : Nat} (hi : i < 10) (hk : k < 60) : ((pAtt A i).1 (60 + k) = A (60 + k) ∧ ¬ ((pAtt A i).2 = 6 ∧ k / 6 = i)) ∨ ((pAtt A i).2 = 6 ∧ k / 6 = i ∧ (pAtt A i).1 (60 + k) = 260) ∨ (A (60 + k) = 260 ∧ k = (pAtt A i).2 ∧ k < aLists (A 0) ∧ (pAtt A i).1 (60 + k) = 26 * i + pName A) := by
  unfold pAtt
  split
  · rename_i h
    unfold aUp
    dsimp only
    by_cases e : 60 + k = 60 + pSlot A
    · have e2 : k = pSlot A := by omega
      rw [if_pos e]
      have := fa_first_yes (fun s => A (60 + s) == 260) (aLists (A 0)) h
      have e3 : fa_first (fun s => A (60 + s) == 260) (aLists (A 0)) = pSlot A := rfl
      rw [e3, ← e2] at this
      refine Or.inr (Or.inr ⟨beq_iff_eq.mp this, e2, by omega, rfl⟩)
    · rw [if_neg e]
      by_cases z : pSlot A = 6 ∧ k / 6 = i
      · refine Or.inl ⟨rfl, fun _ => ?_⟩
        have h2 : pSlot A < aLists (A 0) := h
        have key : ∀ x, aLists x ≤ 6 := by
          intro x
          rcases Nat.lt_or_ge x 6 with q | q
          · exact (xlist_at x q).2
          · have : aLists x = 0 := by
              unfold aLists
              rw [List.getD_eq_getElem?_getD, List.getElem?_eq_none (by simpa using q)]; rfl
            omega
        have := key (A 0)
        omega
      · exact Or.inl ⟨rfl, z⟩
  · dsimp only
    rw [aWipe_slot hi hk]
    by_cases e : k / 6 = i
    · rw [if_pos e]; exact Or.inr (Or.inl ⟨rfl, e, rfl⟩)
    · rw [if_neg e]; exact Or.inl ⟨rfl, fun z => e z.2⟩
theorem pAtt_dir {i t : Nat} (hO : aOK A) (ht : t < 10) (h : aDir (pAtt A i).1 t = true) : aDir A t = true ∧ ¬ ((pAtt A i).2 = 6 ∧ t = i) := by
  have e := pAtt_low (i := i) hO ht
  by_cases z : (pAtt A i).2 = 6 ∧ t = i
  · rw [if_pos z] at e; rw [aDir_0 (i := 0) e] at h; cases h
  · rw [if_neg z] at e; rw [aDir_cong e] at h; exact ⟨h, z⟩
theorem pAtt_J {i : Nat} (hJ : aJ A) (hi : i < 10) (h0 : i ≠ 0) : aJ (pAtt A i).1 := by
  have hO := hJ.1
  refine ⟨pAtt_ok hO hi, ?_, fun k hk hf => ?_⟩
  · have e := pAtt_low (i := i) (q := 0) hO (by omega)
    rw [if_neg (by omega)] at e
    rw [aDir_cong e]; exact hJ.2.1
  · have h6 := pSlot_6 (hO.1 0 (by omega))
    rcases pAtt_slot (A := A) hi hk with ⟨h, hn⟩ | ⟨_, _, h⟩ | ⟨_, _, h2, h⟩
    · rw [aFull_cong h] at hf
      have e := pAtt_low (i := i) (q := k / 6) hO (by omega)
      rw [if_neg hn] at e
      rw [aDir_cong e]; exact hJ.2.2 k hk hf
    · unfold aFull at hf; rw [h] at hf; exact absurd hf (by decide)
    · have e := pAtt_low (i := i) (q := k / 6) hO (by omega)
      rw [if_neg (by omega)] at e
      rw [aDir_cong e, show k / 6 = 0 by omega]; exact hJ.2.1
/-- who is reached stays so, where the one attached was not; and the one attached is -/
theorem pAtt_S {i t : Nat} (hO : aOK A) (hi : i < 10) (hn : (pAtt A i).2 = 6 → ∀ k, k < 60 → k / 6 = i → aFull A k = true → aS A 0 10 i = false) (h : aS A 0 10 t = true) : aS (pAtt A i).1 0 10 t = true := by
  have key := aS_in (A := A) (i := 0) (C := fun t => aS A 0 10 t = true ∧ aS (pAtt A i).1 0 10 t = true) ⟨aS_0, aS_0⟩ (fun k t hk hc he => ?_) 10 t h
  · exact key.2
  · have ht := aEnt_lt hO hk he
    have a1 := aS_to (by omega) ht hk hc.1 he
    refine ⟨a1, aS_to (by omega) ht hk hc.2 ?_⟩
    rcases pAtt_slot (A := A) hi hk with ⟨h, _⟩ | ⟨q1, q2, _⟩ | ⟨q, _⟩
    · rw [aEnt_cong h]; exact he
    · have := hn q1 k hk q2 (aEnt_full he)
      rw [← q2, hc.1] at this; cases this
    · have := aEnt_full he
      unfold aFull at this; rw [q] at this; exact absurd this (by decide)
theorem pAtt_me {i : Nat} (hO : aOK A) (hi : i < 10) (h : (pAtt A i).2 ≠ 6) : aS (pAtt A i).1 0 10 i = true := by
  have h6 := pSlot_6 (hO.1 0 (by omega))
  have hf : pName A ≤ 6 := aNm_free A 0
  by_cases z : pSlot A < aLists (A 0)
  · have e : pAtt A i = (aUp A (60 + pSlot A) (26 * i + pName A), pSlot A) := by unfold pAtt; rw [if_pos z]
    rw [e]
    refine aS_to (k := pSlot A) (by omega) hi (by omega) ?_ ?_
    · rw [show pSlot A / 6 = 0 by omega]; exact aS_0
    · unfold aEnt aUp
      dsimp only
      rw [if_pos rfl, Bool.and_eq_true, Bool.not_eq_true', beq_eq_false_iff_ne, beq_iff_eq]
      omega
  · have e : pAtt A i = (aWipe A i 0, 6) := by unfold pAtt; rw [if_neg z]
    rw [e] at h; exact absurd rfl h
theorem pConn_1 (h : anyN (pApart T.1) 10 = true) : (pConn T).1 = (pAtt (if anyN (pAlone T.1) 10 = true then T.1 else cCut T.1 (pPick T.1)) (pPick T.1)).1 := by
  unfold pConn
  rw [if_pos h]
  unfold pJoin
  by_cases z : anyN (pAlone T.1) 10 = true
  · simp only [if_pos z]
  · simp only [if_neg z, pCut_1]
theorem aNx_all {t : Nat} : aNx A (fun _ => true) t = anyN (aEnt A t) 60 := by
  rw [Bool.eq_iff_iff, aNx_k, anyN_iff]
  constructor
  · rintro ⟨k, h1, _, h2⟩; exact ⟨k, h1, h2⟩
  · rintro ⟨k, h1, h2⟩; exact ⟨k, h1, rfl, h2⟩
/-- one that stands alone has no entry to it: nothing is cut -/
theorem cCut_alone (h : anyN (pAlone A) 10 = true) : cCut A (pPick A) = A := by
  have e : pPick A = fa_first (pAlone A) 10 := by unfold pPick; rw [if_pos h]
  have h2 := (pAlone_iff.mp (fa_at h).2).2
  rw [aNx_all, anyN_not] at h2
  unfold cCut
  rw [e, if_neg (ff_none h2)]
theorem pConn_1' (h : anyN (pApart T.1) 10 = true) : (pConn T).1 = (pAtt (cCut T.1 (pPick T.1)) (pPick T.1)).1 := by
  rw [pConn_1 h]
  by_cases z : anyN (pAlone T.1) 10 = true
  · rw [if_pos z, cCut_alone z]
  · rw [if_neg z]
theorem pApart_0 : pApart A 0 = false := by unfold pApart; rw [aS_0]; simp
theorem pConn_J (hJ : aJ T.1) : aJ (pConn T).1 := by
  by_cases h : anyN (pApart T.1) 10 = true
  · rw [pConn_1' h]
    have hp := pPick_apart h
    refine pAtt_J (cCut_J hJ) hp.1 (fun z => ?_)
    rw [z, pApart_0] at hp; cases hp.2
  · rw [pConn_none (by simpa using h)]; exact hJ
theorem cCut_S {i t : Nat} (hO : aOK A) (hi : aS A 0 10 i = false) (h : aS A 0 10 t = true) : aS (cCut A i) 0 10 t = true := by
  have key := aS_in (A := A) (i := 0) (C := fun t => aS A 0 10 t = true ∧ aS (cCut A i) 0 10 t = true) ⟨aS_0, aS_0⟩ (fun k t hk hc he => ?_) 10 t h
  · exact key.2
  · have ht := aEnt_lt hO hk he
    have a1 := aS_to (by omega) ht hk hc.1 he
    refine ⟨a1, aS_to (by omega) ht hk hc.2 ?_⟩
    rcases cCut_slot (A := A) (i := i) hk with h | ⟨q, _⟩
    · rw [aEnt_cong h]; exact he
    · rw [aEnt_one q he, a1] at hi; cases hi
theorem cCut_S' {i t : Nat} (hO : aOK A) (h : aS (cCut A i) 0 10 t = true) : aS A 0 10 t = true := by
  refine aS_in (A := cCut A i) (i := 0) (C := fun t => aS A 0 10 t = true) aS_0 (fun k t hk hc he => ?_) 10 t h
  have ht := aEnt_lt (cCut_ok hO) hk he
  refine aS_to (by omega) ht hk hc ?_
  rcases cCut_slot (A := A) (i := i) hk with h | ⟨_, q⟩
  · rw [← aEnt_cong h]; exact he
  · have := aEnt_full he
    unfold aFull at this; rw [q] at this; exact absurd this (by decide)
theorem pConn_less (hJ : aJ T.1) (h : anyN (pApart T.1) 10 = true) : fb_ct (pApart (pConn T).1) 10 < fb_ct (pApart T.1) 10 := by
  have hp := pPick_apart h
  have hp2 := pApart_iff.mp hp.2
  have hO := hJ.1
  rw [pConn_1' h]
  generalize pPick T.1 = i at hp hp2
  have hcO := cCut_ok (i := i) hO
  have hcut : aS (cCut T.1 i) 0 10 i = false := by
    cases z : aS (cCut T.1 i) 0 10 i with
    | false => rfl
    | true => have := cCut_S' hO z; rw [hp2.2] at this; cases this
  have sub : ∀ t, t < 10 → pApart (pAtt (cCut T.1 i) i).1 t = true → pApart T.1 t = true ∧ t ≠ i := by
    intro t ht hq
    rw [pApart_iff] at hq
    have hd := pAtt_dir hcO ht hq.1
    have hS : aS T.1 0 10 t = false := by
      cases z : aS T.1 0 10 t with
      | false => rfl
      | true =>
        have := pAtt_S hcO hp.1 (fun _ _ _ _ _ => hcut) (cCut_S hO hp2.2 z)
        rw [hq.2] at this; cases this
    refine ⟨pApart_iff.mpr ⟨?_, hS⟩, fun e => ?_⟩
    · rw [← aDir_cong (cCut_low (A := T.1) (i := i) (by omega))]; exact hd.1
    · subst e
      by_cases z : (pAtt (cCut T.1 t) t).2 = 6
      · exact hd.2 ⟨z, rfl⟩
      · rw [pAtt_me hcO ht z] at hq; cases hq.2
  refine ct_grow (fun t ht hq => (sub t ht hq).1) ⟨i, hp.1, hp.2, ?_⟩
  cases z : pApart (pAtt (cCut T.1 i) i).1 i with
  | false => rfl
  | true => exact absurd rfl (sub i hp.1 z).2
theorem pConns_J : ∀ n (T : aT), aJ T.1 → aJ (pConns T n).1 ∧ (fb_ct (pApart T.1) 10 ≤ n → anyN (pApart (pConns T n).1) 10 = false)
  | 0, T, h => ⟨h, fun z => by rw [← ct_0]; show fb_ct (pApart T.1) 10 = 0; omega⟩
  | n + 1, T, h => by
    by_cases z : anyN (pApart T.1) 10 = true
    · have a := pConn_less h z
      have b := pConns_J n (pConn T) (pConn_J h)
      exact ⟨b.1, fun q => b.2 (by omega)⟩
    · have z' : anyN (pApart T.1) 10 = false := by simpa using z
      rw [pConns_none z']
      exact ⟨h, fun _ => z'⟩
theorem aAP_of (h : anyN (pApart A) 10 = false) : aAP A := fun t ht hd => by
  have := anyN_not.mp h t ht
  cases z : aS A 0 10 t with
  | true => rfl
  | false => rw [pApart_iff.mpr ⟨hd, z⟩] at this; cases this
theorem pChk3_J {A : Nat → Nat} (hO : aOK A) : aJ (pChk3 rf A).1 ∧ aAP (pChk3 rf A).1 := by
  have := pConns_J 10 (pChk2 rf A) (pChk2_J hO)
  exact ⟨this.1, aAP_of (this.2 (fb_ct_le _ 10))⟩
theorem pPar_ok {k : Nat} (hO : aOK T.1) (hk : k < 10) : aOK (pPar rf T k).1 := by
  unfold pPar; split
  · exact aOK_par hO hk (pPt_lt hO hk)
  · exact hO
theorem pPar_E {k : Nat} (hk : k < 10) : aE T.1 (pPar rf T k).1 := by
  unfold pPar; split
  · exact aE_up (by omega)
  · exact aE_rf
theorem pChk4_J {A : Nat → Nat} (hO : aOK A) : aJ (pChk4 rf A).1 ∧ aAP (pChk4 rf A).1 := by
  unfold pChk4
  exact pIter_P (P := fun T => aJ T.1 ∧ aAP T.1) (N := 10) (fun T k hk h => ⟨aE_J (pPar_E hk) (pPar_ok h.1.1 hk) h.1, aE_AP (pPar_E hk) h.2⟩) 10 (by omega) (pChk3_J hO)
theorem pLink_ok {k : Nat} (hO : aOK T.1) (hk : k < 10) : aOK (pLink rf T k).1 := by
  unfold pLink; split
  · exact aOK_link hO hk (by unfold pNum; split <;> omega)
  · exact hO
theorem pLink_E {k : Nat} (hk : k < 10) : aE T.1 (pLink rf T k).1 := by
  unfold pLink; split
  · exact aE_up (by omega)
  · exact aE_rf
/-- all that is in use, of a number below n, is reached -/
def aZ (A : Nat → Nat) (n : Nat) : Prop := ∀ t, t < n → aUse A t = true → aS A 0 10 t = true
theorem pLone_J {k : Nat} (hk : k < 10) (h : aJ T.1 ∧ aAP T.1 ∧ aZ T.1 k) : aJ (pLone T k).1 ∧ aAP (pLone T k).1 ∧ aZ (pLone T k).1 (k + 1) := by
  obtain ⟨h1, h2, h3⟩ := h
  have hO := h1.1
  by_cases z : aUse T.1 k = true ∧ aDir T.1 k = false ∧ fb_ct (aEnt T.1 k) 60 = 0
  · have e : (pLone T k).1 = (pAtt T.1 k).1 := by unfold pLone; rw [if_pos z]
    rw [e]
    have k0 : k ≠ 0 := fun q => by rw [q, h1.2.1] at z; cases z.2.1
    have none : ∀ j, j < 60 → j / 6 = k → aFull T.1 j = true → aS T.1 0 10 k = false := fun j hj e hf => by
      have := h1.2.2 j hj hf
      rw [e, z.2.1] at this; cases this
    have hS := fun t => pAtt_S (t := t) hO hk (fun _ => none)
    have use : ∀ t, t < 10 → aUse (pAtt T.1 k).1 t = true → aUse T.1 t = true ∧ ¬ ((pAtt T.1 k).2 = 6 ∧ t = k) := fun t ht hu => by
      have e := pAtt_low (i := k) hO ht
      by_cases q : (pAtt T.1 k).2 = 6 ∧ t = k
      · rw [if_pos q] at e
        unfold aUse at hu; rw [e] at hu; exact absurd hu (by decide)
      · rw [if_neg q] at e
        rw [aUse_cong e] at hu; exact ⟨hu, q⟩
    refine ⟨pAtt_J h1 hk k0, fun t ht hd => hS t (h2 t ht (pAtt_dir hO ht hd).1), fun t ht hu => ?_⟩
    have hu2 := use t (by omega) hu
    rcases Nat.lt_or_ge t k with q | q
    · exact hS t (h3 t q hu2.1)
    · have e : t = k := by omega
      subst e
      exact pAtt_me hO hk (fun q => hu2.2 ⟨q, rfl⟩)
  · have e : pLone T k = T := by unfold pLone; rw [if_neg z]
    rw [e]
    refine ⟨h1, h2, fun t ht hu => ?_⟩
    rcases Nat.lt_or_ge t k with q | q
    · exact h3 t q hu
    · have e : t = k := by omega
      subst e
      cases hd : aDir T.1 t with
      | true => exact h2 t hk hd
      | false =>
        have hc : fb_ct (aEnt T.1 t) 60 ≠ 0 := fun q => z ⟨hu, hd, q⟩
        obtain ⟨j, hj, he⟩ := fb_ct_pos.mp (Nat.pos_of_ne_zero hc)
        exact aS_to (by omega) hk hj (h2 _ (by omega) (h1.2.2 j hj (aEnt_full he))) he
theorem pCnt_J {k : Nat} (hk : k < 10) (h : aJ T.1 ∧ aAP T.1 ∧ aZ T.1 k) : aJ (pCnt rf T k).1 ∧ aAP (pCnt rf T k).1 ∧ aZ (pCnt rf T k).1 (k + 1) := by
  obtain ⟨h1, h2, h3⟩ := pLone_J hk h
  unfold pCnt
  have hE := pLink_E (rf := rf) (T := pLone T k) hk
  refine ⟨aE_J hE (pLink_ok h1.1 hk) h1, aE_AP hE h2, fun t ht hu => ?_⟩
  rw [aUse_cong (hE.1 t (by omega))] at hu
  rw [aS_cong hE.2]; exact h3 t ht hu
theorem pCnts_J' {R : aT} (h : aJ R.1 ∧ aAP R.1) : ∀ n, n ≤ 10 → aJ (pIter (pCnt rf) R n).1 ∧ aAP (pIter (pCnt rf) R n).1 ∧ aZ (pIter (pCnt rf) R n).1 n
  | 0, _ => ⟨h.1, h.2, fun t ht => absurd ht (Nat.not_lt_zero t)⟩
  | n + 1, hn => pCnt_J (by omega) (pCnts_J' h n (by omega))
theorem pCnts_J {A : Nat → Nat} (hO : aOK A) : ∀ n, n ≤ 10 → aJ (pIter (pCnt rf) (pChk4 rf A) n).1 ∧ aAP (pIter (pCnt rf) (pChk4 rf A) n).1 ∧ aZ (pIter (pCnt rf) (pChk4 rf A) n).1 n := pCnts_J' (pChk4_J hO)
theorem pChk_hJ {A : Nat → Nat} (hO : aOK A) : ∀ n, n ≤ 10 → aJ1 (pIter (pCnt rf) (pChk4 rf A) n).1 := fun n hn => (pCnts_J hO n hn).1.2.2
theorem x_lt {x b n : Nat} (hx : x < 2 ^ n) (hb : b < n) : x ^^^ 2 ^ b < 2 ^ n := Nat.xor_lt_two_pow hx (Nat.pow_lt_pow_right (by omega) hb)
theorem pBm_J {k : Nat} (hk : k < 24) (h : aJ T.1 ∧ aZ T.1 10) : aJ (pBm rf T k).1 ∧ aZ (pBm rf T k).1 10 := by
  unfold pBm; split
  · have hE : aE T.1 (aUp T.1 144 (T.1 144 ^^^ 2 ^ k)) := aE_up (by omega)
    refine ⟨aE_J hE (aOK_bm h.1.1 (x_lt h.1.1.2.2.2.2.2.2.1 hk)) h.1, fun t ht hu => ?_⟩
    rw [aUse_cong (hE.1 t ht)] at hu
    show aS (aUp T.1 144 _) 0 10 t = true
    rw [aS_cong hE.2]; exact h.2 t ht hu
  · exact h
theorem pIm_J {k : Nat} (hk : k < 10) (h : aJ T.1 ∧ aZ T.1 10) : aJ (pIm rf T k).1 ∧ aZ (pIm rf T k).1 10 := by
  unfold pIm; split
  · have hE : aE T.1 (aUp T.1 145 (T.1 145 ^^^ 2 ^ k)) := aE_up (by omega)
    refine ⟨aE_J hE (aOK_im h.1.1 (x_lt h.1.1.2.2.2.2.2.2.2 hk)) h.1, fun t ht hu => ?_⟩
    rw [aUse_cong (hE.1 t ht)] at hu
    show aS (aUp T.1 145 _) 0 10 t = true
    rw [aS_cong hE.2]; exact h.2 t ht hu
  · exact h
/-- behind a check -/
theorem pChk_J {A : Nat → Nat} (hO : aOK A) : aJ (pChk rf A).1 ∧ aZ (pChk rf A).1 10 := by
  have h5 := pCnts_J (rf := rf) hO 10 (by omega)
  unfold pChk
  refine pIter_P (P := fun T => aJ T.1 ∧ aZ T.1 10) (N := 10) (fun T k hk h => pIm_J hk h) 10 (by omega) ?_
  unfold pChk6
  exact pIter_P (P := fun T => aJ T.1 ∧ aZ T.1 10) (N := 24) (fun T k hk h => pBm_J hk h) 24 (by omega) ⟨h5.1, h5.2.2⟩
end SW
