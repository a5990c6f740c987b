/-! what lies below; where there is room; what is written -/
theorem aNx_iff {A : Nat → Nat} {S : Nat → Bool} {t : Nat} : aNx A S t = true ↔ ∃ i, i < 10 ∧ S i = true ∧ aEb A i t = true := by
  unfold aNx
  rw [anyN_iff]
  simp only [Bool.and_eq_true]
theorem aS_mono {A : Nat → Nat} {i t : Nat} (n : Nat) (h : aS A i n t = true) : ∀ d, aS A i (n + d) t = true
  | 0 => h
  | d + 1 => by
    show (aS A i (n + d) t || aNx A (aS A i (n + d)) t) = true
    rw [aS_mono n h d]; rfl
/-- once nothing is new, nothing is new ever after -/
theorem aS_stop {A : Nat → Nat} {i n : Nat} (h : ∀ t, t < 10 → aS A i (n + 1) t = aS A i n t) : ∀ d t, t < 10 → aS A i (n + d) t = aS A i n t
  | 0, _, _ => rfl
  | d + 1, t, ht => by
    have ih := aS_stop h d
    have e1 : aNx A (aS A i (n + d)) t = aNx A (aS A i n) t := anyN_cong fun k hk => by rw [ih k hk]
    show (aS A i (n + d) t || aNx A (aS A i (n + d)) t) = _
    rw [ih t ht, e1]
    exact h t ht
/-- what the step n has brought that was not there before -/
def aFr (A : Nat → Nat) (i : Nat) : Nat → Nat → Bool
  | 0 => fun t => t == i
  | n + 1 => fun t => aNx A (aS A i n) t && !aS A i n t
theorem aFr_nx (A : Nat → Nat) (i n t : Nat) : (aNx A (aFr A i n) t && !aS A i n t) = (aNx A (aS A i n) t && !aS A i n t) := by
  cases n with
  | zero => rfl
  | succ n =>
    cases hS : aS A i (n + 1) t with
    | true => simp
    | false =>
      simp only [Bool.not_false, Bool.and_true]
      rw [Bool.eq_iff_iff, aNx_iff, aNx_iff]
      constructor
      · rintro ⟨k, h1, h2, h3⟩
        refine ⟨k, h1, ?_, h3⟩
        simp only [aFr, Bool.and_eq_true] at h2
        show (aS A i n k || aNx A (aS A i n) k) = true
        rw [h2.1, Bool.or_true]
      · rintro ⟨k, h1, h2, h3⟩
        have h2' : (aS A i n k || aNx A (aS A i n) k) = true := h2
        have hS' : (aS A i n t || aNx A (aS A i n) t) = false := hS
        simp only [Bool.or_eq_false_iff] at hS'
        cases hk : aS A i n k with
        | true =>
          have : aNx A (aS A i n) t = true := aNx_iff.mpr ⟨k, h1, hk, h3⟩
          rw [hS'.2] at this; cases this
        | false =>
          refine ⟨k, h1, ?_, h3⟩
          rw [hk, Bool.false_or] at h2'
          simp only [aFr, h2', hk, Bool.not_false, Bool.and_self]
section XV
variable {M : xM} {v : Nat} {A : Nat → Nat} {Q : Int32 → xM → Prop}
theorem r_reachedFrom {i : Nat} (hC : CV M v A) (hO : aOK A) (hi : i < 10) (hq : Q (bs (aS A i 10) 10) M) : wX2_reachedFrom M v (nI i) Q := by
  unfold wX2_reachedFrom
  have e1 : (1 : Int32) <<< (nI i &&& 31) = bs (aS A i 0) 10 := (bs_one (by omega) hi).trans (bs_cong fun k _ => rfl)
  have e2 : (1 : Int32) <<< (nI i &&& 31) = bs (aFr A i 0) 10 := (bs_one (by omega) hi).trans (bs_cong fun k _ => rfl)
  have key := z_loop (P := fun n j => lX2_reachedFrom_9 v (nI i) Q n M (bs (aS A i j) 10) (bs (aFr A i j) 10) (nI j)) 10 (fun n => ?_) (fun n j hj hn => ?_)
  · rw [← e1, ← e2] at key; exact key
  · unfold lX2_reachedFrom_9 wX2_reachedFrom_40
    simp (disch := omega) only [zl, z_le, Nat.le_refl, true_implies, not_true, false_implies, and_true]
    exact hq
  · unfold lX2_reachedFrom_9 wX2_reachedFrom_40
    dsimp only
    simp (disch := omega) only [zl 10, zl 1, z_le, z_add]
    refine ⟨fun z => absurd z (by omega), fun _ => ⟨fun z => ?_, fun z => ?_⟩⟩
    · rw [bs_zero (by omega)] at z
      have hst : ∀ t, t < 10 → aS A i 10 t = aS A i j t := by
        cases j with
        | zero =>
          have := z i hi
          simp [aFr] at this
        | succ j =>
          intro t ht
          have h1 : ∀ t, t < 10 → aS A i (j + 1) t = aS A i j t := fun t ht => by
            have h2 := z t ht
            show (aS A i j t || aNx A (aS A i j) t) = _
            simp only [aFr] at h2
            cases hA : aS A i j t with
            | true => rfl
            | false => rw [hA] at h2; simpa using h2
          have h3 := aS_stop h1 (10 - j) t ht
          rw [show j + (10 - j) = 10 by omega] at h3
          rw [h3, h1 t ht]
      rw [bs_cong hst] at hq
      exact hq
    · refine r_enteredByThese hC hO ?_
      have g1 : bs (aNx A (aFr A i j)) 10 &&& (bs (aS A i j) 10 ^^^ (-nI 1)) = bs (aFr A i (j + 1)) 10 := by
        rw [show (-nI 1 : Int32) = -1 from rfl, bs_andn _ _ (by omega)]
        exact bs_cong fun t _ => aFr_nx A i j t
      have g2 : bs (aS A i j) 10 ||| bs (aFr A i (j + 1)) 10 = bs (aS A i (j + 1)) 10 := by
        rw [bs_or _ _ (by omega)]
        refine bs_cong fun t _ => ?_
        show (aS A i j t || (aNx A (aS A i j) t && !aS A i j t)) = (aS A i j t || aNx A (aS A i j) t)
        cases aS A i j t <;> simp
      rw [g1, g2]
      exact hn
theorem r_depthOf {i : Nat} (hC : CV M v A) (hO : aOK A) (hi : i < 10) (hq : Q (if A i = 0 then -9 else if fa_first (fun d => aS A 0 d i) 10 < 10 then nI (fa_first (fun d => aS A 0 d i) 10) else -9) M) : wX2_depthOf M v (nI i) Q := by
  have h1 := hC.1 i hi
  have h2 := hO.1 i hi
  unfold wX2_depthOf
  simp (disch := omega) only [zl 0, z_in, z_cl, h1, z_eq, hi, true_and]
  refine ⟨fun z => ?_, fun z => by rw [if_pos z] at hq; exact hq⟩
  rw [if_neg z] at hq
  have e1 : (1 : Int32) = bs (aS A 0 0) 10 := by
    rw [show bs (aS A 0 0) 10 = bs (fun t => t == 0) 10 from rfl]; decide
  have key := z_loop (P := fun n d => (∀ k, k < d → aS A 0 k i = false) → lX2_depthOf_16 v (nI i) Q n M (bs (aS A 0 d) 10) (nI d)) 10 (fun n hb => ?_) (fun n d hd hn hb => ?_)
  · obtain ⟨n, h⟩ := key
    refine ⟨n, ?_⟩
    have := h (fun k hk => absurd hk (Nat.not_lt_zero k))
    rw [← e1] at this
    exact this
  · unfold lX2_depthOf_16
    simp (disch := omega) only [zl 10, z_le, Nat.le_refl, true_implies, not_true, false_implies, and_true]
    have : ¬ fa_first (fun d => aS A 0 d i) 10 < 10 := fun z => by
      have h3 := fa_first_yes (fun d => aS A 0 d i) 10 z
      rw [hb _ z] at h3; cases h3
    rw [if_neg this] at hq; exact hq
  · unfold lX2_depthOf_16
    dsimp only
    rw [bs_test _ (by omega) hi]
    simp (disch := omega) only [zl 10, z_le]
    refine ⟨fun z => absurd z (by omega), fun _ => ⟨fun z => ?_, fun z => ?_⟩⟩
    · have e : aS A 0 d i = false := by
        cases h : aS A 0 d i with
        | false => rfl
        | true => rw [h, if_pos rfl] at z; exact absurd z (by decide)
      refine r_enteredByThese hC hO ?_
      rw [bs_or _ _ (by omega)]
      rw [show nI d + 1 = nI (d + 1) from nI_1 d]
      exact hn (fun k hk => by
        rcases Nat.lt_or_ge k d with q | q
        · exact hb k q
        · rw [show k = d by omega]; exact e)
    · have e : aS A 0 d i = true := by
        cases h : aS A 0 d i with
        | true => rfl
        | false => rw [h] at z; exact absurd rfl z
      have hf : fa_first (fun d => aS A 0 d i) 10 = d := by
        rcases Nat.lt_trichotomy (fa_first (fun d => aS A 0 d i) 10) d with q | q | q
        · have h3 := fa_first_yes (fun d => aS A 0 d i) 10 (by omega)
          rw [hb _ q] at h3; cases h3
        · exact q
        · have h4 := fa_first_no (fun d => aS A 0 d i) 10 d q
          rw [e] at h4; cases h4
      rw [hf, if_pos hd] at hq
      exact hq
theorem bs_nI (p : Nat → Bool) (n : Nat) (hn : n ≤ 31) : ∃ x, x < 2 ^ n ∧ bs p n = nI x := by
  induction n with
  | zero => exact ⟨0, by omega, rfl⟩
  | succ n ih =>
    obtain ⟨x, hx, he⟩ := ih (by omega)
    rw [bs, he]
    by_cases hp : p n = true
    · rw [if_pos hp, zl, pk_shlN (nI n &&& 31) n (s_l n (by omega)) (by rw [Nat.one_mul]; exact Nat.pow_lt_pow_right (by omega) (by omega)), fa_or]
      refine ⟨_, ?_, rfl⟩
      exact Nat.or_lt_two_pow (by rw [Nat.pow_succ]; omega) (by rw [Nat.one_mul, Nat.pow_succ]; have := Nat.two_pow_pos n; omega)
    · rw [if_neg hp, zl, fa_or]
      refine ⟨_, ?_, rfl⟩
      rw [Nat.or_zero, Nat.pow_succ]; omega
theorem s_popcount {n : Nat} (hn : n ≤ 24) (p : Nat → Bool) (hq : Q (nI (fb_ct p n)) M) : wJ6_bitCount_0f7a4 M (bs p n) Q := by
  obtain ⟨x, hx, he⟩ := bs_nI p n (by omega)
  have hx24 : x < 2 ^ 24 := Nat.lt_of_lt_of_le hx (Nat.pow_le_pow_right (by omega) hn)
  rw [he]
  refine s_bitCount hx24 ?_
  have e : fb_ct (fun i => bt (nI x) i) 24 = fb_ct p n := by
    rw [← he]
    have e1 : fb_ct (fun i => bt (bs p n) i) 24 = fb_ct (fun i => decide (i < n) && p i) 24 := fb_ct_cong fun k hk => bs_bt p (by omega) (by omega)
    rw [e1]
    have e2 := fb_ct_split (fun i => decide (i < n) && p i) n (24 - n)
    rw [show n + (24 - n) = 24 by omega] at e2
    rw [e2]
    have e3 : fb_ct (fun i => decide (i < n) && p i) n = fb_ct p n := fb_ct_cong fun k hk => by simp [hk]
    have e4 : fb_ct (fun k => decide (n + k < n) && p (n + k)) (24 - n) = 0 := fb_ct_zero.mpr fun k hk => by
      have : ¬ n + k < n := by omega
      simp [this]
    rw [e3, e4, Nat.add_zero]
  rw [e]
  exact hq
theorem r_inodesBelow {i : Nat} (hC : CV M v A) (hO : aOK A) (hi : i < 10) (hq : Q (if aDir A i = true then nI (fb_ct (aS A i 10) 10) - 1 else -9) M) : wX2_inodesBelow M v (nI i) Q := by
  unfold wX2_inodesBelow wX2_inodesBelow_23
  refine r_isDirectory hC hO hi ⟨fun z => ?_, fun z => ?_⟩
  · rw [if_neg (by rw [(bI_0 _).mp z]; decide)] at hq; exact hq
  · rw [if_pos (by cases h : aDir A i with | true => rfl | false => rw [h] at z; exact absurd rfl z)] at hq
    exact r_reachedFrom hC hO hi (s_popcount (by omega) _ hq)
/-- the blocks of some inodes -/
def aBl (A : Nat → Nat) (S : Nat → Bool) (b : Nat) : Bool := anyN (fun i => S i && aHas A i b) 10
theorem r_blocksBelow {i : Nat} (hC : CV M v A) (hO : aOK A) (hi : i < 10) (hq : Q (nI (fb_ct (aBl A (if aDir A i = true then aS A i 10 else (fun k => k == i))) 24)) M) : wX2_blocksBelow M v (nI i) Q := by
  have core : ∀ S : Nat → Bool, Q (nI (fb_ct (aBl A S) 24)) M → wX2_blocksBelow_19 v (nI i) Q M (bs S 10) := by
    intro S hS
    unfold wX2_blocksBelow_19
    have key := z_loop (P := fun n j => lX2_blocksBelow_25 v (nI i) Q n M (bs S 10) (bs (fun b => anyN (fun i => S i && aHas A i b) j) 24) (nI j)) 10 (fun n => ?_) (fun n j hj hn => ?_)
    · have e0 : bs (fun b => anyN (fun i => S i && aHas A i b) 0) 24 = 0 := bs_none
      rw [e0] at key; exact key
    · unfold lX2_blocksBelow_25
      simp (disch := omega) only [zl, z_le, Nat.le_refl, true_implies, not_true, false_implies, and_true]
      exact s_popcount (by omega) _ hS
    · have hn' : lX2_blocksBelow_25 v (nI i) Q n M (bs S 10) (bs (fun b => anyN (fun i => S i && aHas A i b) j) 24 ||| bs (fun b => S j && aHas A j b) 24) (nI (j + 1)) := by
        rw [bs_or _ _ (by omega)]; exact hn
      unfold lX2_blocksBelow_25 wX2_blocksBelow_52
      dsimp only
      rw [bs_test S (by omega) hj]
      simp (disch := omega) only [zl 10, zl 1, z_le, z_add]
      refine ⟨fun z => absurd z (by omega), fun _ => ⟨fun z => ?_, fun z => ?_⟩⟩
      · have e : S j = false := by
          cases h : S j with
          | false => rfl
          | true => rw [h, if_pos rfl] at z; exact absurd z (by decide)
        rw [e] at hn'
        have e2 : bs (fun b => false && aHas A j b) 24 = 0 := bs_none
        rw [e2] at hn'; exact hn'
      · have e : S j = true := by
          cases h : S j with
          | true => rfl
          | false => rw [h] at z; exact absurd rfl z
        rw [e] at hn'
        have e2 : bs (fun b => true && aHas A j b) 24 = bs (aHas A j) 24 := bs_cong fun b _ => Bool.true_and _
        rw [e2] at hn'
        exact r_blocksOf hC hO hj hn'
  unfold wX2_blocksBelow
  refine r_isDirectory hC hO hi ⟨fun z => ?_, fun z => ?_⟩
  · rw [if_neg (by rw [(bI_0 _).mp z]; decide)] at hq
    rw [bs_one (n := 10) (by omega) hi]
    exact core _ hq
  · rw [if_pos (by cases h : aDir A i with | true => rfl | false => rw [h] at z; exact absurd rfl z)] at hq
    exact r_reachedFrom hC hO hi (core _ hq)
theorem r_emptySlotOf {i : Nat} (hC : CV M v A) (hO : aOK A) (hi : i < 10) (hq : Q (if fa_first (fun s => A (60 + (6 * i + s)) == 260) (aLists (A i)) < aLists (A i) then nI (fa_first (fun s => A (60 + (6 * i + s)) == 260) (aLists (A i))) else -9) M) : wX2_emptySlotOf M v (nI i) Q := by
  have h1 := hC.1 i hi
  have h2 := hO.1 i hi
  obtain ⟨h3, h4⟩ := xlist_at _ h2
  unfold wX2_emptySlotOf
  simp (disch := omega) only [zl 0, zl 6, zl 10, z_in, z_cl, h1, hi, h2, h3, true_and]
  generalize hN : aLists (A i) = N at hq h4 ⊢
  have hfl := fa_first_le (fun s => A (60 + (6 * i + s)) == 260) N
  refine z_loop (P := fun n j => (∀ k, k < j → (A (60 + (6 * i + k)) == 260) = false) → lX2_emptySlotOf_13 v (nI i) Q n M (nI N) (nI j)) N (fun n hb => ?_) (fun n j hj hn hb => ?_) |>.imp fun n h => h (fun k hk => absurd hk (Nat.not_lt_zero k))
  · unfold lX2_emptySlotOf_13
    simp (disch := omega) only [z_le, Nat.le_refl, true_implies, not_true, false_implies, and_true]
    have : ¬ fa_first (fun s => A (60 + (6 * i + s)) == 260) N < N := fun z => by
      have h5 := fa_first_yes (fun s => A (60 + (6 * i + s)) == 260) N z
      rw [hb _ z] at h5; cases h5
    rw [if_neg this] at hq; exact hq
  · have h5 := hC.2.2.2.2.1 (6 * i + j) (by omega)
    have h6 := hO.2.2.2.2.1 (6 * i + j) (by omega)
    unfold lX2_emptySlotOf_13
    simp (disch := omega) only [zl, z_le, z_mul, z_add, z_in, z_cl, h5, eC_n9]
    refine ⟨fun z => absurd z (by omega), fun _ => ⟨by omega, fun z => ?_, fun z => ?_⟩⟩
    · exact hn (fun k hk => by
        rcases Nat.lt_or_ge k j with q | q
        · exact hb k q
        · rw [show k = j by omega]; simpa using z)
    · have hf : fa_first (fun s => A (60 + (6 * i + s)) == 260) N = j := by
        rcases Nat.lt_trichotomy (fa_first (fun s => A (60 + (6 * i + s)) == 260) N) j with q | q | q
        · have h7 := fa_first_yes (fun s => A (60 + (6 * i + s)) == 260) N (by omega)
          rw [hb _ q] at h7; cases h7
        · exact q
        · have h7 := fa_first_no (fun s => A (60 + (6 * i + s)) == 260) N j q
          simp [z] at h7
      rw [hf, if_pos hj] at hq
      exact hq
/-- an entry of the inode has the name -/
def aNm (A : Nat → Nat) (i nm : Nat) : Bool := anyN (fun s => aFull A (6 * i + s) && (A (60 + (6 * i + s)) % 26 == nm)) 6
theorem r_freeNameIn {i : Nat} (hC : CV M v A) (hO : aOK A) (hi : i < 10) (hq : Q (nI (fa_first (fun nm => !aNm A i nm) 26)) M) : wX2_freeNameIn M v (nI i) Q := by
  unfold wX2_freeNameIn
  have key := z_loop (P := fun n j => lX2_freeNameIn_4 v (nI i) Q n M (bs (fun nm => anyN (fun s => aFull A (6 * i + s) && (A (60 + (6 * i + s)) % 26 == nm)) j) 26) (nI j)) 6 (fun n => ?_) (fun n j hj hn => ?_)
  · have e0 : bs (fun nm => anyN (fun s => aFull A (6 * i + s) && (A (60 + (6 * i + s)) % 26 == nm)) 0) 26 = 0 := bs_none
    rw [e0] at key; exact key
  · unfold lX2_freeNameIn_4
    dsimp only
    simp (disch := omega) only [zl 6, z_le, Nat.le_refl, true_implies, not_true, false_implies, and_true]
    have hle := fa_first_le (fun nm => !aNm A i nm) 26
    refine s_ntz (p := fa_first (fun nm => !aNm A i nm) 26) (by omega) ?_ (fun k hk => ?_) hq
    · rw [b_xor, bs_bt _ (by omega) (by omega), b_m1 _ (by omega)]
      rcases Nat.lt_or_ge (fa_first (fun nm => !aNm A i nm) 26) 26 with q | q
      · have h3 := fa_first_yes (fun nm => !aNm A i nm) 26 q
        simp only [Bool.not_eq_true'] at h3
        unfold aNm at h3
        unfold aNm
        rw [h3]; simp
      · have : ¬ fa_first (fun nm => !aNm A i nm) 26 < 26 := by omega
        simp [this]
    · have h3 := fa_first_no (fun nm => !aNm A i nm) 26 k hk
      simp only [Bool.not_eq_false'] at h3
      unfold aNm at h3
      have h26 : k < 26 := by omega
      rw [b_xor, bs_bt _ (by omega) (by omega), b_m1 _ (by omega), h3]
      simp [h26]
  · have h1 := hC.2.2.2.2.1 (6 * i + j) (by omega)
    have h2 := hO.2.2.2.2.1 (6 * i + j) (by omega)
    have hn' : lX2_freeNameIn_4 v (nI i) Q n M (bs (fun nm => anyN (fun s => aFull A (6 * i + s) && (A (60 + (6 * i + s)) % 26 == nm)) j) 26 ||| bs (fun nm => aFull A (6 * i + j) && (A (60 + (6 * i + j)) % 26 == nm)) 26) (nI (j + 1)) := by
      rw [bs_or _ _ (by omega)]; exact hn
    unfold lX2_freeNameIn_4 wX2_freeNameIn_42
    simp (disch := omega) only [zl, z_le, z_mul, z_add, z_in, z_cl, h1, eC_n9]
    refine ⟨fun z => absurd z (by omega), fun _ => ⟨by omega, fun z => ?_, fun z => ?_⟩⟩
    · have e2 : bs (fun nm => aFull A (6 * i + j) && (A (60 + (6 * i + j)) % 26 == nm)) 26 = 0 := by
        rw [bs_zero (by omega)]; intro k _; unfold aFull; simp [z]
      rw [e2] at hn'; exact hn'
    · have e2 : bs (fun nm => aFull A (6 * i + j) && (A (60 + (6 * i + j)) % 26 == nm)) 26 = (1 : Int32) <<< (nI (A (60 + (6 * i + j)) % 26) &&& 31) := by
        rw [bs_one (n := 26) (by omega) (Nat.mod_lt _ (by omega))]
        refine bs_cong fun k _ => ?_
        unfold aFull
        rw [Bool.eq_iff_iff, Bool.and_eq_true, beq_iff_eq, decide_eq_true_eq, Bool.not_eq_true', beq_eq_false_iff_ne]
        exact ⟨fun q => q.2.symm, fun q => ⟨z, q.symm⟩⟩
      rw [eC_some z, z_rem (by omega) (by omega) (by omega)]
      rw [e2] at hn'; exact hn'
end XV
