/-! plain facts for the pure part: small ints, rows of bits, loops -/
theorem zl (n : Nat) : (OfNat.ofNat n : Int32) = nI n := fa_lit n
theorem z_le {a b : Nat} (ha : a < 2147483648) (hb : b < 2147483648) : nI a ≤ nI b ↔ a ≤ b := nI_leI ha hb
theorem z_lt {a b : Nat} (ha : a < 2147483648) (hb : b < 2147483648) : nI a < nI b ↔ a < b := nI_ltI ha hb
theorem z_eq {a b : Nat} (ha : a < 2147483648) (hb : b < 2147483648) : nI a = nI b ↔ a = b := nI_eq ha hb
theorem z_cl {a : Nat} (ha : a < 2147483648) : (nI a).toNatClampNeg = a := nI_clamp ha
theorem z_in {a N : Nat} (ha : a < 2147483648) (hN : N < 2147483648) : vp_in (nI a) N ↔ a < N := by
  rw [vp_in_iff, nI_toInt ha]; omega
theorem z_add (a b : Nat) : nI a + nI b = nI (a + b) := nI_add a b
theorem z_mul (a b : Nat) : nI a * nI b = nI (a * b) := pk_mul a b
theorem z_sub {a b : Nat} (h : b ≤ a) : nI a - nI b = nI (a - b) := pk_sub h
theorem z_div {a d : Nat} (ha : a < 2147483648) (h0 : 0 < d) (hd : d < 2147483648) : nI a / nI d = nI (a / d) := pk_div ha h0 hd
theorem z_rem {a d : Nat} (ha : a < 2147483648) (h0 : 0 < d) (hd : d < 2147483648) : nI a - nI a / nI d * nI d = nI (a % d) := pk_rem ha h0 hd
theorem z_negT {a : Nat} (ha : a < 2147483648) : (-nI a).toInt = -(a : Int) := by
  rw [Int32.toInt_neg, nI_toInt ha]
  exact fb_bmod (by omega) (by omega)
theorem z_neq {a b : Nat} (ha : a < 2147483648) (h0 : 0 < b) (hb : b < 2147483648) : nI a = -nI b ↔ False := by
  rw [← Int32.toInt_inj, nI_toInt ha, z_negT hb]
  constructor
  · intro h; omega
  · exact False.elim
theorem z_neq' {a b : Nat} (ha : a < 2147483648) (h0 : 0 < b) (hb : b < 2147483648) : -nI b = nI a ↔ False := by
  rw [eq_comm]; exact z_neq ha h0 hb
theorem z_nlt {a b : Nat} (ha : a < 2147483648) (h0 : 0 < b) (hb : b < 2147483648) : -nI b < nI a ↔ True := by
  rw [Int32.lt_iff_toInt_lt, nI_toInt ha, z_negT hb]
  simp only [iff_true]; omega
theorem z_ltn {a b : Nat} (ha : a < 2147483648) (hb : b < 2147483648) : nI a < -nI b ↔ False := by
  rw [Int32.lt_iff_toInt_lt, nI_toInt ha, z_negT hb]
  simp only [iff_false]; omega
theorem z_nle {a b : Nat} (ha : a < 2147483648) (hb : b < 2147483648) : -nI b ≤ nI a ↔ True := by
  rw [Int32.le_iff_toInt_le, nI_toInt ha, z_negT hb]
  simp only [iff_true]; omega
theorem z_nn {a b : Nat} (ha : a < 2147483648) (hb : b < 2147483648) : -nI a = -nI b ↔ a = b := by
  rw [← Int32.toInt_inj, z_negT ha, z_negT hb]; omega
theorem z_nlt' {a b : Nat} (ha : a < 2147483648) (hb : b < 2147483648) (h0 : 0 < a) : (-nI a) < nI b ↔ True := by
  rw [Int32.lt_iff_toInt_lt, z_negT ha, nI_toInt hb]
  simp only [iff_true]; omega
/-- an int that is no small number -/
theorem z_of (x : Int32) (N : Nat) (hN : N < 2147483648) : (vp_in x N ∧ ∃ j, j < N ∧ x = nI j) ∨ (¬ vp_in x N ∧ (x < nI 0 ∨ nI N ≤ x)) := by
  by_cases h : vp_in x N
  · exact Or.inl ⟨h, vp_in_of h hN⟩
  · refine Or.inr ⟨h, ?_⟩
    rw [vp_in_iff] at h
    rw [Int32.lt_iff_toInt_lt, Int32.le_iff_toInt_le, nI_toInt hN, nI_toInt (by omega)]
    omega
/-- going through a loop of N turns -/
theorem z_loop {P : Nat → Nat → Prop} (N : Nat) (hE : ∀ n, P (n + 1) N) (hS : ∀ n j, j < N → P n (j + 1) → P (n + 1) j) : ∃ n, P n 0 := by
  have key : ∀ d j, j + d = N → P (d + 1) j := by
    intro d
    induction d with
    | zero => intro j h; rw [show j = N by omega]; exact hE 0
    | succ d ih => intro j h; exact hS (d + 1) j (by omega) (ih (j + 1) (by omega))
  exact ⟨N + 1, key N 0 (by omega)⟩
theorem z_loopF {P : Nat → Nat → Prop} (N i : Nat) (hi : i ≤ N) (hE : ∀ n, P (n + 1) N) (hS : ∀ n j, i ≤ j → j < N → P n (j + 1) → P (n + 1) j) : ∃ n, P n i := by
  have key : ∀ d j, i ≤ j → j + d = N → P (d + 1) j := by
    intro d
    induction d with
    | zero => intro j _ h; rw [show j = N by omega]; exact hE 0
    | succ d ih => intro j h1 h; exact hS (d + 1) j h1 (by omega) (ih (j + 1) (by omega) (by omega))
  exact ⟨N - i + 1, key (N - i) i (Nat.le_refl i) (by omega)⟩
-- rows of bits as ints
def bs (p : Nat → Bool) : Nat → Int32
  | 0 => 0
  | n + 1 => bs p n ||| (if p n = true then (1 : Int32) <<< (nI n &&& 31) else 0)
theorem bt_one {n i : Nat} (hn : n < 32) (hi : i < 32) : bt ((1 : Int32) <<< (nI n &&& 31)) i = decide (i = n) := by
  rw [b_shl n hn 1 hi]
  have h1 : ∀ k, k < 32 → bt 1 k = decide (k = 0) := by decide
  by_cases h : n ≤ i
  · rw [h1 (i - n) (by omega)]
    simp only [h, decide_true, Bool.true_and]
    by_cases h2 : i = n
    · simp [h2]
    · simp [h2]; omega
  · have : ¬ i = n := by omega
    simp [h, this]
theorem bs_bt (p : Nat → Bool) {n i : Nat} (hn : n ≤ 32) (hi : i < 32) : bt (bs p n) i = (decide (i < n) && p i) := by
  induction n with
  | zero => rw [bs, b_0]; simp
  | succ n ih =>
    rw [bs, b_or, ih (by omega)]
    by_cases hp : p n = true
    · rw [if_pos hp, bt_one (by omega) hi]
      by_cases h : i = n
      · subst h; simp [hp]
      · have e1 : decide (i < n) = decide (i < n + 1) := by
          apply decide_eq_decide.mpr; omega
        simp [h, e1]
    · rw [if_neg hp, b_0]
      by_cases h : i = n
      · subst h
        have e2 : p i = false := by simpa using hp
        simp [e2]
      · have e1 : decide (i < n) = decide (i < n + 1) := by
          apply decide_eq_decide.mpr; omega
        simp [e1]
theorem bs_cong {p q : Nat → Bool} : ∀ {n : Nat}, (∀ k, k < n → p k = q k) → bs p n = bs q n
  | 0, _ => rfl
  | n + 1, h => by rw [bs, bs, bs_cong (fun k hk => h k (by omega)), h n (by omega)]
theorem bs_of {x : Int32} {p : Nat → Bool} {n : Nat} (hn : n ≤ 32) (h : ∀ i, i < 32 → bt x i = (decide (i < n) && p i)) : x = bs p n := b_ext fun i hi => by rw [h i hi, bs_bt p hn hi]
theorem bs_or (p q : Nat → Bool) {n : Nat} (hn : n ≤ 32) : bs p n ||| bs q n = bs (fun i => p i || q i) n := bs_of hn fun i hi => by
  rw [b_or, bs_bt p hn hi, bs_bt q hn hi, Bool.and_or_distrib_left]
theorem bs_and (p q : Nat → Bool) {n : Nat} (hn : n ≤ 32) : bs p n &&& bs q n = bs (fun i => p i && q i) n := bs_of hn fun i hi => by
  rw [b_and, bs_bt p hn hi, bs_bt q hn hi]
  cases decide (i < n) <;> simp
theorem bs_xor (p q : Nat → Bool) {n : Nat} (hn : n ≤ 32) : bs p n ^^^ bs q n = bs (fun i => p i ^^ q i) n := bs_of hn fun i hi => by
  rw [b_xor, bs_bt p hn hi, bs_bt q hn hi]
  cases decide (i < n) <;> simp
theorem bs_andn (p q : Nat → Bool) {n : Nat} (hn : n ≤ 32) : bs p n &&& (bs q n ^^^ (-1)) = bs (fun i => p i && !q i) n := bs_of hn fun i hi => by
  rw [b_and, b_xor, bs_bt p hn hi, bs_bt q hn hi, b_m1 i hi]
  cases decide (i < n) <;> simp
theorem bs_one {i n : Nat} (hn : n ≤ 32) (hi : i < n) : (1 : Int32) <<< (nI i &&& 31) = bs (fun k => decide (k = i)) n := bs_of hn fun k hk => by
  rw [bt_one (by omega) hk]
  by_cases h : k = i
  · subst h; simp [hi]
  · simp [h]
theorem bs_none {n : Nat} : bs (fun _ => false) n = 0 := by
  induction n with
  | zero => rfl
  | succ n ih => rw [bs, ih]; simp
theorem bt_test (x : Int32) {i : Nat} (hi : i < 32) : ((x >>> (nI i &&& 31)) &&& 1) = if bt x i = true then 1 else 0 := b_ext fun k hk => by
  have h1 : ∀ k, k < 32 → bt 1 k = decide (k = 0) := by decide
  rw [b_and, h1 k hk, b_sshr i hi x hk]
  by_cases h : k = 0
  · subst h
    have e : i + 0 < 32 := by omega
    simp only [Nat.add_zero, hi, if_true, decide_true, Bool.and_true]
    split
    · rename_i h2; rw [h2]; rfl
    · rename_i h2
      have : bt x i = false := by simpa using h2
      rw [this]; rfl
  · simp only [h, decide_false, Bool.and_false]
    split
    · rw [h1 k hk]; simp [h]
    · rw [b_0]
theorem bs_test (p : Nat → Bool) {n i : Nat} (hn : n ≤ 32) (hi : i < n) : ((bs p n >>> (nI i &&& 31)) &&& 1) = if p i = true then 1 else 0 := by
  rw [bt_test _ (by omega), bs_bt p hn (by omega)]
  simp [hi]
theorem bs_zero {p : Nat → Bool} {n : Nat} (hn : n ≤ 32) : bs p n = 0 ↔ ∀ k, k < n → p k = false := by
  constructor
  · intro h k hk
    have := bs_bt p hn (show k < 32 by omega)
    rw [h, b_0] at this
    simpa [hk] using this.symm
  · intro h
    rw [bs_cong (q := fun _ => false) h, bs_none]
theorem bs_inj {p q : Nat → Bool} {n : Nat} (hn : n ≤ 32) (h : bs p n = bs q n) {k : Nat} (hk : k < n) : p k = q k := by
  have h1 := bs_bt p hn (show k < 32 by omega)
  have h2 := bs_bt q hn (show k < 32 by omega)
  rw [h, h2] at h1
  simpa [hk] using h1.symm
theorem bs_big {p : Nat → Bool} {n m : Nat} (hm : m ≤ 32) (hnm : n ≤ m) (h : ∀ k, n ≤ k → k < m → p k = false) : bs p n = bs p m := bs_of hm fun i hi => by
  rw [bs_bt p (by omega) hi]
  by_cases h1 : i < n
  · have : i < m := by omega
    simp [h1, this]
  · by_cases h2 : i < m
    · simp [h1, h2, h i (by omega) h2]
    · simp [h1, h2]
