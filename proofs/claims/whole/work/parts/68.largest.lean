/-! LARGEST -/
section K8
variable {M : xM} {A : Nat → Nat} {rf : Nat → Bool}
/-- p comes ahead of q -/
def vBet (s : Nat → Nat) (p q : Nat) : Bool := decide (s q < s p) || (decide (s p = s q) && decide (p < q))
theorem vBet_iff {s : Nat → Nat} {p q : Nat} : vBet s p q = true ↔ s q < s p ∨ (s p = s q ∧ p < q) := by
  unfold vBet; simp
theorem vBet_no {s : Nat → Nat} {p q : Nat} : vBet s p q = false ↔ ¬ (s q < s p ∨ (s p = s q ∧ p < q)) := by
  rw [← vBet_iff]; simp
def vRk (U : Nat → Bool) (s : Nat → Nat) (q : Nat) : Nat := fb_ct (fun p => U p && vBet s p q) 10
theorem ct_less {f g : Nat → Bool} {n p : Nat} (hp : p < n) (h : ∀ k, k < n → f k = true → g k = true) (hf : f p = false) (hg : g p = true) : fb_ct f n < fb_ct g n := by
  have h1 := fb_ct_upd g false hp
  rw [if_pos hg, if_neg (by decide)] at h1
  have h2 : fb_ct f n ≤ fb_ct (fun k => if k = p then false else g k) n := fb_ct_sub fun k hk hfk => by
    by_cases e : k = p
    · rw [e, hf] at hfk; cases hfk
    · show (if k = p then false else g k) = true
      rw [if_neg e]; exact h k hk hfk
  omega
theorem vRk_lt {U : Nat → Bool} {s : Nat → Nat} {p q : Nat} (hp : p < 10) (hU : U p = true) (h : vBet s p q = true) : vRk U s p < vRk U s q := by
  refine ct_less hp (fun k _ hk => ?_) ?_ ?_
  · rw [Bool.and_eq_true] at hk ⊢
    refine ⟨hk.1, ?_⟩
    have h1 := vBet_iff.mp hk.2
    have h2 := vBet_iff.mp h
    rw [vBet_iff]; omega
  · rw [Bool.and_eq_false_iff]
    exact Or.inr (vBet_no.mpr (by omega))
  · rw [hU, h]; rfl
theorem vRk_one {U : Nat → Bool} {s : Nat → Nat} {p q : Nat} (hp : p < 10) (hq : q < 10) (hU : U p = true) (hV : U q = true) (h : vRk U s p = vRk U s q) : p = q := by
  rcases Nat.lt_trichotomy p q with z | z | z
  · by_cases e : vBet s p q = true
    · have := vRk_lt hp hU e; omega
    · have e2 : vBet s q p = true := by
        rw [Bool.not_eq_true, vBet_no] at e
        rw [vBet_iff]; omega
      have := vRk_lt hq hV e2; omega
  · exact z
  · by_cases e : vBet s p q = true
    · have := vRk_lt hp hU e; omega
    · have e2 : vBet s q p = true := by
        rw [Bool.not_eq_true, vBet_no] at e
        rw [vBet_iff]; omega
      have := vRk_lt hq hV e2; omega
theorem vRk_all {U : Nat → Bool} {s : Nat → Nat} {q : Nat} (hq : q < 10) (hU : U q = true) : vRk U s q < fb_ct U 10 := by
  refine ct_less hq (fun k _ hk => ?_) ?_ hU
  · rw [Bool.and_eq_true] at hk; exact hk.1
  · rw [Bool.and_eq_false_iff]
    exact Or.inr (vBet_no.mpr (by omega))
/-- the i-th by blocks below -/
def vPick (U : Nat → Bool) (s : Nat → Nat) (i : Nat) : Int32 := if fa_first (fun q => U q && (vRk U s q == i)) 10 < 10 then nI (fa_first (fun q => U q && (vRk U s q == i)) 10) else -9
theorem vPick_some {U : Nat → Bool} {s : Nat → Nat} {i q : Nat} (hq : q < 10) (hU : U q = true) (h : vRk U s q = i) : vPick U s i = nI q := by
  have e : fa_first (fun q => U q && (vRk U s q == i)) 10 = q := by
    refine ff_is (fun k hk => ?_) ?_ hq
    · cases h2 : (U k && (vRk U s k == i)) with
      | false => rfl
      | true =>
        rw [Bool.and_eq_true, beq_iff_eq] at h2
        have := vRk_one (by omega) hq h2.1 hU (h2.2.trans h.symm)
        omega
    · show (U q && (vRk U s q == i)) = true
      rw [hU, h]; simp
  unfold vPick
  rw [e, if_pos hq]
theorem vPick_none {U : Nat → Bool} {s : Nat → Nat} {i : Nat} (h : ∀ q, q < 10 → U q = true → vRk U s q ≠ i) : vPick U s i = -9 := by
  unfold vPick
  rw [if_neg]
  refine ff_none fun k hk => ?_
  cases h2 : (U k && (vRk U s k == i)) with
  | false => rfl
  | true =>
    rw [Bool.and_eq_true, beq_iff_eq] at h2
    exact absurd h2.2 (h k hk h2.1)
/-- what is left behind t turns -/
def vLeft (U : Nat → Bool) (s : Nat → Nat) (t : Nat) (L : Nat → Bool) : Prop := (∀ p, p < 10 → L p = true → U p = true) ∧ (∀ p q, p < 10 → q < 10 → U p = true → L p = false → L q = true → vBet s p q = true) ∧ fb_ct (fun p => U p && !L p) 10 = t
/-- the best of what is left, below j; 10: none -/
def vBest (s : Nat → Nat) (L : Nat → Bool) (j f : Nat) : Prop := (f = 10 ∧ ∀ p, p < j → L p = false) ∨ (f < j ∧ L f = true ∧ ∀ p, p < j → L p = true → p ≠ f → vBet s f p = true)
theorem vLeft_rank {U : Nat → Bool} {s : Nat → Nat} {t f : Nat} {L : Nat → Bool} (h : vLeft U s t L) (hf : f < 10) (b : vBest s L 10 f) : U f = true ∧ vRk U s f = t := by
  obtain ⟨h1, h2, h3⟩ := h
  rcases b with b | ⟨_, b1, b2⟩
  · omega
  · refine ⟨h1 f hf b1, ?_⟩
    rw [← h3]
    refine fb_ct_cong fun p hp => ?_
    cases hU : U p with
    | false => rfl
    | true =>
      rw [Bool.true_and, Bool.true_and]
      cases hL : L p with
      | false => exact h2 p f hp hf hU hL b1
      | true =>
        by_cases e : p = f
        · rw [e]; exact vBet_no.mpr (by omega)
        · have := vBet_iff.mp (b2 p hp hL e)
          exact vBet_no.mpr (by omega)
theorem vLeft_next {U : Nat → Bool} {s : Nat → Nat} {t f : Nat} {L : Nat → Bool} (h : vLeft U s t L) (hf : f < 10) (b : vBest s L 10 f) : vLeft U s (t + 1) (fun p => L p && !decide (p = f)) := by
  have hr := vLeft_rank h hf b
  obtain ⟨h1, h2, h3⟩ := h
  rcases b with b | ⟨_, b1, b2⟩
  · omega
  · refine ⟨fun p hp hL => ?_, fun p q hp hq hU hL hM => ?_, ?_⟩
    · rw [Bool.and_eq_true] at hL; exact h1 p hp hL.1
    · rw [Bool.and_eq_true, Bool.not_eq_true', decide_eq_false_iff_not] at hM
      cases hp2 : L p with
      | false => exact h2 p q hp hq hU hp2 hM.1
      | true =>
        have hL : (L p && !decide (p = f)) = false := hL
        rw [hp2, Bool.true_and, Bool.not_eq_false', decide_eq_true_eq] at hL
        rw [hL]; exact b2 q hq hM.1 hM.2
    · have e := fb_ct_upd (fun p => U p && !L p) true hf
      rw [if_pos rfl, b1, hr.1, h3] at e
      have e2 : fb_ct (fun p => U p && !(L p && !decide (p = f))) 10 = fb_ct (fun k => if k = f then true else (fun p => U p && !L p) k) 10 := fb_ct_cong fun k _ => by
        by_cases q : k = f
        · subst q
          rw [if_pos rfl, hr.1]; simp
        · rw [if_neg q]; simp [q]
      rw [e2]
      exact e
theorem vBest_s {s : Nat → Nat} {L : Nat → Bool} {j f : Nat} (b : vBest s L j f) (hj : j < 10) : vBest s L (j + 1) (if L j = true then (if f = 10 then j else if s f < s j then j else f) else f) := by
  by_cases hL : L j = true
  · rw [if_pos hL]
    rcases b with ⟨b1, b2⟩ | ⟨b1, b2, b3⟩
    · rw [if_pos b1]
      refine Or.inr ⟨by omega, hL, fun p hp hLp hne => ?_⟩
      rw [b2 p (by omega)] at hLp; cases hLp
    · rw [if_neg (show ¬ f = 10 by omega)]
      by_cases hs : s f < s j
      · rw [if_pos hs]
        refine Or.inr ⟨by omega, hL, fun p hp hLp hne => ?_⟩
        by_cases e : p = f
        · rw [e, vBet_iff]; omega
        · have := vBet_iff.mp (b3 p (by omega) hLp e)
          rw [vBet_iff]; omega
      · rw [if_neg hs]
        refine Or.inr ⟨by omega, b2, fun p hp hLp hne => ?_⟩
        by_cases e : p = j
        · rw [e, vBet_iff]; omega
        · exact b3 p (by omega) hLp hne
  · rw [if_neg hL]
    rw [Bool.not_eq_true] at hL
    rcases b with ⟨b1, b2⟩ | ⟨b1, b2, b3⟩
    · exact Or.inl ⟨b1, lt_snoc b2 hL⟩
    · refine Or.inr ⟨by omega, b2, fun p hp hLp hne => ?_⟩
      by_cases e : p = j
      · rw [e, hL] at hLp; cases hLp
      · exact b3 p (by omega) hLp hne
theorem aSz_le (i : Nat) : aSz A i ≤ 24 := fb_ct_le _ 24
theorem c_inodeBySize {i : Nat} {Q : Int32 → xM → Prop} (hC : CV M 23 A) (hO : aOK A) (hi : i < 10) (hq : Q (vPick (aUse A) (aSz A) i) M) : wX3_inodeBySize M 23 (nI i) Q := by
  have hsz : ∀ q, aSz A q ≤ 24 := fun q => aSz_le q
  have m1 : (-1 : Int32) = -nI 1 := rfl
  have m9 : (-9 : Int32) = -nI 9 := rfl
  unfold wX3_inodeBySize
  refine r_inodesInUse (v := 23) hC hO ?_
  have h0 : vLeft (aUse A) (aSz A) 0 (aUse A) := ⟨fun _ _ h => h, fun p q _ _ a b _ => absurd a (by rw [b]; decide), fb_ct_zero.mpr fun k _ => by simp⟩
  have key := z_loop (P := fun n t => ∀ L a3, vLeft (aUse A) (aSz A) t L → (1 ≤ t → ∃ q, q < 10 ∧ aUse A q = true ∧ vRk (aUse A) (aSz A) q + 1 = t ∧ a3 = nI q) → lX3_inodeBySize_11 23 (nI i) Q n M (bs L 10) a3 (nI t)) (i + 1) (fun n L a3 hL h3 => ?_) (fun n t ht hn L a3 hL h3 => ?_)
  · obtain ⟨n, hn⟩ := key
    exact ⟨n, hn _ _ h0 (fun z => absurd z (by omega))⟩
  · unfold lX3_inodeBySize_11
    dsimp only
    rw [z_lt (by omega) (by omega)]
    refine ⟨fun _ => ?_, fun z => absurd (by omega) z⟩
    obtain ⟨q, q1, q2, q3, q4⟩ := h3 (by omega)
    rw [q4, ← vPick_some (s := aSz A) (i := i) q1 q2 (by omega)]
    exact hq
  · unfold lX3_inodeBySize_11
    dsimp only
    rw [z_lt (by omega) (by omega)]
    refine ⟨fun z => absurd z (by omega), fun _ => ?_⟩
    have kb := z_loop (P := fun m j => ∀ f, vBest (aSz A) L j f → lX3_inodeBySize_26 23 (nI i) Q (lX3_inodeBySize_11 23 (nI i) Q n) m M (bs L 10) (if f = 10 then -9 else nI f) (nI t) (if f = 10 then -1 else nI (aSz A f)) (nI j)) 10 (fun m f hf => ?_) (fun m j hj hm f hf => ?_)
    · obtain ⟨m, hm⟩ := kb
      exact ⟨m, hm 10 (Or.inl ⟨rfl, fun p hp => absurd hp (Nat.not_lt_zero p)⟩)⟩
    · unfold lX3_inodeBySize_26
      dsimp only
      refine ⟨fun _ => ?_, fun z => absurd (show (10 : Int32) ≤ nI 10 by decide) z⟩
      by_cases e : f = 10
      · rw [if_pos e]
        refine ⟨fun z => absurd rfl z, fun _ => ?_⟩
        have hn : vPick (aUse A) (aSz A) i = -9 := vPick_none fun q hq hU hr => by
          have hl := vRk_all (s := aSz A) hq hU
          have hc : fb_ct (aUse A) 10 = t := by
            rw [← hL.2.2]
            refine fb_ct_cong fun p hp => ?_
            rcases hf with ⟨_, b⟩ | ⟨b, _, _⟩
            · rw [b p hp]; simp
            · omega
          omega
        rw [hn] at hq; exact hq
      · have hf10 : f < 10 := by
          rcases hf with ⟨b, _⟩ | ⟨b, _, _⟩
          · exact absurd b e
          · exact b
        rw [if_neg e]
        refine ⟨fun _ => ?_, fun z => ?_⟩
        · rw [bs_one (n := 10) (by omega) hf10, bs_andn _ _ (by omega), nI_1]
          have hr := vLeft_rank hL hf10 hf
          exact hn _ _ (vLeft_next hL hf10 hf) (fun _ => ⟨f, hf10, hr.1, by rw [hr.2], rfl⟩)
        · rw [m9, z_neq (by omega) (by omega) (by omega)] at z; exact z.elim
    · have hs := vBest_s hf hj
      have hn2 := hm _ hs
      rw [← nI_1 j] at hn2
      have hsj := hsz j
      have hsf := hsz f
      unfold lX3_inodeBySize_26 wX3_inodeBySize_52 wX3_inodeBySize_68
      dsimp only
      rw [show (10 : Int32) = nI 10 from rfl, z_le (by omega) (by omega), bs_test L (by omega) hj, nI_1]
      refine ⟨fun z => absurd z (by omega), fun _ => ⟨fun z => ?_, fun z => ?_⟩⟩
      · have hLj : ¬ L j = true := fun q => by rw [if_pos q] at z; exact absurd z (by decide)
        rw [if_neg hLj] at hn2
        refine ⟨fun _ => hn2, fun z2 => ?_⟩
        by_cases e : f = 10
        · rw [if_pos e] at z2; exact absurd (by decide) z2
        · rw [if_neg e, m1, z_nle (by omega) (by omega)] at z2; exact absurd trivial z2
      · have hLj : L j = true := by
          cases q : L j with
          | true => rfl
          | false => rw [q] at z; exact absurd rfl z
        rw [if_pos hLj] at hn2
        refine r_blocksBelow (v := 23) hC hO hj ?_
        show (nI (aSz A j) ≤ _ → _) ∧ (¬ nI (aSz A j) ≤ _ → _)
        by_cases e : f = 10
        · rw [if_pos e] at hn2 ⊢
          rw [if_neg (show ¬ j = 10 by omega), if_neg (show ¬ j = 10 by omega)] at hn2
          refine ⟨fun z2 => ?_, fun _ => hn2⟩
          rw [m1, show nI (aSz A j) ≤ -nI 1 ↔ False from ⟨fun q => by
            rw [Int32.le_iff_toInt_le, nI_toInt (by omega), z_negT (by omega)] at q; omega, fun q => q.elim⟩] at z2
          exact z2.elim
        · rw [if_neg e] at hn2
          rw [if_neg e, if_neg e, z_le (by omega) (by omega)]
          refine ⟨fun z2 => ?_, fun z2 => ?_⟩
          · rw [if_neg (show ¬ aSz A f < aSz A j by omega), if_neg e, if_neg e] at hn2; exact hn2
          · rw [if_pos (show aSz A f < aSz A j by omega), if_neg (show ¬ j = 10 by omega), if_neg (show ¬ j = 10 by omega)] at hn2; exact hn2
theorem t_largestLoop {i : Nat} {Q : Int32 → xM → Prop} (hS : SV M A) (hO : aOK A) (hq : wX4_goesBack M (fun M1 => Q (vPick (aUse A) (aSz A) i) M1)) (hi : i < 10) : ∃ n, lX4_largest_27 (nI i) Q n M (-9) 0 := by
  have hsz : ∀ q, aSz A q ≤ 24 := fun q => aSz_le q
  obtain ⟨p, hp⟩ : ∃ p : Nat → Bool, p = fun q => aUse A q && (vRk (aUse A) (aSz A) q == i) := ⟨_, rfl⟩
  -- found so far: none, or the one
  have key := z_loop (P := fun n j => ∀ a2 : Int32, ((∀ k, k < j → p k = false) → a2 = -9) → (∀ k, k < j → p k = true → a2 = nI k) → lX4_largest_27 (nI i) Q n M a2 (nI j)) 10 (fun n a2 h1 h2 => ?_) (fun n j hj hn a2 h1 h2 => ?_)
  · obtain ⟨n, hn⟩ := key
    exact ⟨n, hn _ (fun _ => rfl) (fun k hk => absurd hk (Nat.not_lt_zero k))⟩
  · unfold lX4_largest_27
    dsimp only
    refine ⟨fun _ => ?_, fun z => absurd (show (10 : Int32) ≤ nI 10 by decide) z⟩
    have e : a2 = vPick (aUse A) (aSz A) i := by
      by_cases z : anyN p 10 = true
      · obtain ⟨k, hk, hpk⟩ := anyN_iff.mp z
        rw [h2 k hk hpk]
        rw [hp] at hpk
        rw [Bool.and_eq_true, beq_iff_eq] at hpk
        exact (vPick_some hk hpk.1 hpk.2).symm
      · rw [Bool.not_eq_true] at z
        have z' := anyN_not.mp z
        rw [h1 z']
        refine (vPick_none fun q hq hU hr => ?_).symm
        have h7 : (aUse A q && (vRk (aUse A) (aSz A) q == i)) = false := by
          have h8 := z' q hq
          rw [hp] at h8; exact h8
        rw [hU, hr] at h7; simp at h7
    rw [e]; exact hq
  · unfold lX4_largest_27
    dsimp only
    rw [show (10 : Int32) = nI 10 from rfl, z_le (by omega) (by omega)]
    refine ⟨fun z => absurd z (by omega), fun _ => ?_⟩
    have wj := hS.1 j hj
    have bj := hO.1 j hj
    have sj := hsz j
    have e0 : (0 : Int32) + nI j = nI j := by rw [show (0 : Int32) = nI 0 from rfl, z_add, Nat.zero_add]
    refine z_loop (P := fun m k => lX4_largest_39 (nI i) Q (lX4_largest_27 (nI i) Q n) m M a2 (nI j) (nI (fb_ct (fun p => aUse A p && vBet (aSz A) p j) k)) (nI k)) 10 (fun m => ?_) (fun m k hk hm => ?_)
    · have hr : fb_ct (fun p => aUse A p && vBet (aSz A) p j) 10 = vRk (aUse A) (aSz A) j := rfl
      have hb : vRk (aUse A) (aSz A) j ≤ 10 := fb_ct_le _ 10
      unfold lX4_largest_39 wX4_largest_141 wX4_largest_142
      dsimp only
      rw [e0, z_cl (by omega), z_in (by omega) (by omega), wj, hr, z_eq (by omega) (by omega), show (0 : Int32) = nI 0 from rfl, z_eq (by omega) (by omega), nI_1]
      refine ⟨fun _ => ⟨by omega, fun z => ?_, fun z => ⟨fun z2 => ?_, fun z2 => ?_⟩⟩, fun z => absurd (show (10 : Int32) ≤ nI 10 by decide) z⟩
      · have pj : p j = false := by rw [hp]; unfold aUse; simp [z]
        exact hn a2 (fun h => h1 fun k hk => h k (by omega)) (fun k hk hpk => h2 k (by
          by_cases e : k = j
          · rw [e, pj] at hpk; cases hpk
          · omega) hpk)
      · have pj : p j = false := by rw [hp]; simp [z2]
        exact hn a2 (fun h => h1 fun k hk => h k (by omega)) (fun k hk hpk => h2 k (by
          by_cases e : k = j
          · rw [e, pj] at hpk; cases hpk
          · omega) hpk)
      · have uj : aUse A j = true := by unfold aUse; simp [z]
        have pj : p j = true := by rw [hp]; simp [uj, z2]
        refine hn (nI j) (fun h => ?_) (fun k hk hpk => ?_)
        · have := h j (by omega); rw [pj] at this; cases this
        · rw [hp] at hpk
          rw [Bool.and_eq_true, beq_iff_eq] at hpk
          rw [vRk_one (by omega) hj hpk.1 uj (hpk.2.trans z2.symm)]
    · have wk := hS.1 k hk
      have bk := hO.1 k hk
      have sk := hsz k
      have e1 : (0 : Int32) + nI k = nI k := by rw [show (0 : Int32) = nI 0 from rfl, z_add, Nat.zero_add]
      have hm' : lX4_largest_39 (nI i) Q (lX4_largest_27 (nI i) Q n) m M a2 (nI j) (nI (fb_ct (fun p => aUse A p && vBet (aSz A) p j) k + (if (aUse A k && vBet (aSz A) k j) = true then 1 else 0))) (nI (k + 1)) := hm
      have keep : vBet (aSz A) k j = false → wX4_largest_84 (nI i) Q (lX4_largest_27 (nI i) Q n) (lX4_largest_39 (nI i) Q (lX4_largest_27 (nI i) Q n) m) M a2 (nI j) (nI (fb_ct (fun p => aUse A p && vBet (aSz A) p j) k)) (nI k) := fun hb => by
        rw [hb, Bool.and_false, if_neg (by decide)] at hm'
        unfold wX4_largest_84 wX4_largest_85 wX4_largest_110 wX4_largest_111
        rw [e1, z_cl (by omega), z_in (by omega) (by omega), nI_1, show nI (fb_ct (fun p => aUse A p && vBet (aSz A) p j) k) + 0 = nI (fb_ct (fun p => aUse A p && vBet (aSz A) p j) k + 0) from z_add _ 0]
        exact ⟨by omega, fun _ => hm', fun _ => ⟨fun _ => hm', fun z => absurd rfl z⟩⟩
      have more : vBet (aSz A) k j = true → wX4_largest_80 (nI i) Q (lX4_largest_27 (nI i) Q n) (lX4_largest_39 (nI i) Q (lX4_largest_27 (nI i) Q n) m) M a2 (nI j) (nI (fb_ct (fun p => aUse A p && vBet (aSz A) p j) k)) (nI k) := fun hb => by
        rw [hb, Bool.and_true] at hm'
        unfold wX4_largest_80 wX4_largest_85 wX4_largest_110 wX4_largest_111
        rw [e1, z_cl (by omega), z_in (by omega) (by omega), nI_1, wk]
        refine ⟨by omega, fun z => ?_, fun z => ⟨fun z2 => absurd z2 (by decide), fun _ => ?_⟩⟩
        · rw [show (0 : Int32) = nI 0 from rfl, z_eq (by omega) (by omega)] at z
          rw [if_neg (by unfold aUse; simp [z])] at hm'
          rw [show (0 : Int32) = nI 0 from rfl, z_add]; exact hm'
        · rw [show (0 : Int32) = nI 0 from rfl, z_eq (by omega) (by omega)] at z
          rw [if_pos (by unfold aUse; simp [z])] at hm'
          rw [nI_1]; exact hm'
      unfold lX4_largest_39
      dsimp only
      rw [show (10 : Int32) = nI 10 from rfl, z_le (by omega) (by omega)]
      refine ⟨fun z => absurd z (by omega), fun _ => t_blocksBelow hS hO hk (t_blocksBelow hS hO hj ?_)⟩
      rw [z_lt (by omega) (by omega)]
      refine ⟨fun z => more (vBet_iff.mpr (Or.inl z)), fun z => t_blocksBelow hS hO hk (t_blocksBelow hS hO hj ?_)⟩
      rw [z_eq (by omega) (by omega), z_le (by omega) (by omega)]
      refine ⟨fun z2 => keep (vBet_no.mpr (by omega)), fun z2 => ⟨fun z3 => keep (vBet_no.mpr (by omega)), fun z3 => more (vBet_iff.mpr (by omega))⟩⟩
theorem k_largest {a : Int32} (h : Inv M) : wX3_largest M a (fun r M1 => wX4_largest M1 a (fun r2 M2 => r = r2 ∧ Inv M2)) := by
  have h0 := h
  obtain ⟨hR, A, rf, hV⟩ := h
  have hJ := pChk_J (rf := rf) hV.2.1
  unfold wX3_largest
  refine k_outA (N := 10) (by omega) (fun ha => ?_) (fun ha => ?_)
  · refine c_run hV (fun M1 k1 s1 i1 c1 => ?_)
    obtain ⟨i, hi, rfl⟩ := vp_in_of ha (by omega)
    refine c_inodeBySize k1.1 hJ.1.1 hi ?_
    unfold wX4_largest
    refine t_isInodeA (fun _ => ?_) (fun q => absurd ha q)
    exact r_think i1.2.2.2.2.1 hV.2.1 i1.2.2.2.2.2 (fun M2 k2 f2 d2 => t_largestLoop k2.1 k2.2.1 (r_back f2 (fun M3 s3 t3 f3 o3 => ⟨rfl, inv_q hR c1 i1 (dOff_tr d2 (dOff_51 o3)) s3 t3⟩)) hi)
  · unfold wX4_largest
    refine k_ref (n := 1) (by omega) ?_
    exact t_isInodeA (fun q => absurd q ha) (fun _ => fin_ref (by omega) h0)
end K8
