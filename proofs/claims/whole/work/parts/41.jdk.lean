/-! Integer.bitCount and numberOfTrailingZeros -/
theorem n_and8 (u v : Nat) : u &&& v = (u % 256 &&& v % 256) + 256 * ((u / 256) &&& (v / 256)) := by
  have h1 : (u &&& v) % 2 ^ 8 = u % 2 ^ 8 &&& v % 2 ^ 8 := Nat.and_mod_two_pow
  have h2 : (u &&& v) / 2 ^ 8 = u / 2 ^ 8 &&& v / 2 ^ 8 := Nat.and_div_two_pow
  have h3 := Nat.mod_add_div (u &&& v) (2 ^ 8)
  rw [h1, h2] at h3
  exact h3.symm
def n_s1 (m x : Nat) : Nat := x - (x / 2 &&& m)
def n_s2 (m x : Nat) : Nat := (x &&& m) + (x / 4 &&& m)
def n_s3 (m x : Nat) : Nat := (x + x / 16) &&& m
def n_p8 (a : Nat) : Nat := fb_ct (fun i => a.testBit i) 8
theorem n_b1 : ∀ a, a < 256 → ∀ b, b < 2 → ((a / 2 + 128 * b) &&& 85) = (a / 2 &&& 85) ∧ (a / 2 &&& 85) ≤ a ∧ n_s1 85 a < 256 := by decide +kernel
theorem n_b2 : ∀ a, a < 256 → ∀ b, b < 4 → ((n_s1 85 a / 4 + 64 * b) &&& 51) = (n_s1 85 a / 4 &&& 51) ∧ n_s2 51 (n_s1 85 a) ≤ 68 ∧ n_s2 51 (n_s1 85 a) % 16 ≤ 4 := by decide +kernel
theorem n_b3 : ∀ a, a ≤ 68 → ∀ b, b < 5 → ((a + a / 16 + 16 * b) &&& 15) = n_s3 15 a := by decide +kernel
theorem n_b8 : ∀ a, a < 256 → n_s3 15 (n_s2 51 (n_s1 85 a)) = n_p8 a ∧ n_p8 a ≤ 8 := by decide +kernel
theorem n_c1 (m a y : Nat) (ha : a < 256) (hy : (y / 2 &&& m) ≤ y) : n_s1 (85 + 256 * m) (a + 256 * y) = n_s1 85 a + 256 * n_s1 m y := by
  obtain ⟨h1, h2, -⟩ := n_b1 a ha (y % 2) (Nat.mod_lt _ (by omega))
  unfold n_s1
  rw [n_and8, show (a + 256 * y) / 2 % 256 = a / 2 + 128 * (y % 2) by omega, show (a + 256 * y) / 2 / 256 = y / 2 by omega, show (85 + 256 * m) % 256 = 85 by omega, show (85 + 256 * m) / 256 = m by omega, h1]
  omega
theorem n_c2 (m a Y : Nat) (ha : a < 256) : n_s2 (51 + 256 * m) (n_s1 85 a + 256 * Y) = n_s2 51 (n_s1 85 a) + 256 * n_s2 m Y := by
  obtain ⟨h1, -, -⟩ := n_b2 a ha (Y % 4) (Nat.mod_lt _ (by omega))
  have h3 := (n_b1 a ha 0 (by omega)).2.2
  generalize n_s1 85 a = A at h1 h3 ⊢
  unfold n_s2
  rw [n_and8, n_and8 ((A + 256 * Y) / 4), show (A + 256 * Y) % 256 = A by omega, show (A + 256 * Y) / 256 = Y by omega, show (A + 256 * Y) / 4 % 256 = A / 4 + 64 * (Y % 4) by omega, show (A + 256 * Y) / 4 / 256 = Y / 4 by omega, show (51 + 256 * m) % 256 = 51 by omega, show (51 + 256 * m) / 256 = m by omega, h1]
  omega
theorem n_c3 (m A Y : Nat) (hA : A ≤ 68) (hY : Y % 16 < 5) : n_s3 (15 + 256 * m) (A + 256 * Y) = n_s3 15 A + 256 * n_s3 m Y := by
  have h1 := n_b3 A hA (Y % 16) hY
  unfold n_s3 at h1 ⊢
  rw [n_and8, show (A + 256 * Y + (A + 256 * Y) / 16) % 256 = A + A / 16 + 16 * (Y % 16) by omega, show (A + 256 * Y + (A + 256 * Y) / 16) / 256 = Y + Y / 16 by omega, show (15 + 256 * m) % 256 = 15 by omega, show (15 + 256 * m) / 256 = m by omega, h1]
theorem n_last : ∀ c, c < 256 → n_s1 21845 c = n_s1 85 c ∧ (c / 2 &&& 21845) ≤ c ∧ n_s2 13107 (n_s1 85 c) = n_s2 51 (n_s1 85 c) ∧ n_s3 3855 (n_s2 51 (n_s1 85 c)) = n_s3 15 (n_s2 51 (n_s1 85 c)) := by decide +kernel
theorem n_byt (a b c : Nat) (ha : a < 256) (hb : b < 256) (hc : c < 256) : n_s3 252645135 (n_s2 858993459 (n_s1 1431655765 (a + 256 * (b + 256 * c)))) = n_p8 a + 256 * (n_p8 b + 256 * n_p8 c) ∧ (a + 256 * (b + 256 * c)) / 2 &&& 1431655765 ≤ a + 256 * (b + 256 * c) := by
  obtain ⟨c1, c2, c3, c4⟩ := n_last c hc
  have hy2 : ((b + 256 * c) / 2 &&& 5592405) ≤ b + 256 * c := by
    have h2 := (n_b1 b hb (c % 2) (Nat.mod_lt _ (by omega)))
    rw [n_and8, show (b + 256 * c) / 2 % 256 = b / 2 + 128 * (c % 2) by omega, show (b + 256 * c) / 2 / 256 = c / 2 by omega, show 5592405 % 256 = 85 by omega, show 5592405 / 256 = 21845 by omega, h2.1]
    have := h2.2.1
    omega
  have hx : (a + 256 * (b + 256 * c)) / 2 &&& 1431655765 ≤ a + 256 * (b + 256 * c) := by
    have h2 := (n_b1 a ha ((b + 256 * c) % 2) (Nat.mod_lt _ (by omega)))
    rw [n_and8, show (a + 256 * (b + 256 * c)) / 2 % 256 = a / 2 + 128 * ((b + 256 * c) % 2) by omega, show (a + 256 * (b + 256 * c)) / 2 / 256 = (b + 256 * c) / 2 by omega, show 1431655765 % 256 = 85 by omega, show 1431655765 / 256 = 5592405 by omega, h2.1]
    have := h2.2.1
    omega
  refine ⟨?_, hx⟩
  rw [show 1431655765 = 85 + 256 * 5592405 by omega, n_c1 _ _ _ ha hy2, show 5592405 = 85 + 256 * 21845 by omega, n_c1 _ _ _ hb c2, c1]
  rw [show 858993459 = 51 + 256 * 3355443 by omega, n_c2 _ _ _ ha, show 3355443 = 51 + 256 * 13107 by omega, n_c2 _ _ _ hb, c3]
  have qa := n_b2 a ha 0 (by omega)
  have qb := n_b2 b hb 0 (by omega)
  have qc := n_b2 c hc 0 (by omega)
  rw [show 252645135 = 15 + 256 * 986895 by omega, n_c3 _ _ _ qa.2.1 (by omega), show 986895 = 15 + 256 * 3855 by omega, n_c3 _ _ _ qb.2.1 (by omega), c4]
  rw [(n_b8 a ha).1, (n_b8 b hb).1, (n_b8 c hc).1]
theorem n_pop (x : Nat) (h : x < 2 ^ 24) : fb_ct (fun i => x.testBit i) 24 = n_p8 (x % 256) + n_p8 (x / 256 % 256) + n_p8 (x / 65536) := by
  have e1 := fb_ct_split (fun i => x.testBit i) 8 16
  have e2 := fb_ct_split (fun k => x.testBit (8 + k)) 8 8
  rw [show 8 + 16 = 24 from rfl] at e1
  rw [show 8 + 8 = 16 from rfl] at e2
  rw [e1, e2]
  unfold n_p8
  have g1 : fb_ct (fun i => x.testBit i) 8 = fb_ct (fun i => (x % 256).testBit i) 8 := fb_ct_cong fun k hk => by
    rw [show (256 : Nat) = 2 ^ 8 from rfl, Nat.testBit_mod_two_pow]; simp [hk]
  have g2 : fb_ct (fun k => x.testBit (8 + k)) 8 = fb_ct (fun i => (x / 256 % 256).testBit i) 8 := fb_ct_cong fun k hk => by
    rw [show x / 256 % 256 = x / 2 ^ 8 % 2 ^ 8 from rfl, Nat.testBit_mod_two_pow, Nat.testBit_div_two_pow]; simp [hk, Nat.add_comm]
  have g3 : fb_ct (fun k => x.testBit (8 + (8 + k))) 8 = fb_ct (fun i => (x / 65536).testBit i) 8 := fb_ct_cong fun k hk => by
    rw [show x / 65536 = x / 2 ^ 16 from rfl, Nat.testBit_div_two_pow]; congr 1; omega
  rw [g1, g2, g3]
  omega
theorem bt_nI {n i : Nat} (hn : n < 2 ^ 32) : bt (nI n) i = n.testBit i := by
  unfold bt
  rw [BitVec.getLsbD, pk_tn hn]
theorem s_bitCount {M : xM} {Q : Int32 → xM → Prop} {x : Nat} (h : x < 2 ^ 24) (hq : Q (nI (fb_ct (fun i => bt (nI x) i) 24)) M) : wJ6_bitCount_0f7a4 M (nI x) Q := by
  have e0 : fb_ct (fun i => bt (nI x) i) 24 = fb_ct (fun i => x.testBit i) 24 := fb_ct_cong fun k _ => bt_nI (by omega)
  rw [e0, n_pop x h] at hq
  have hd : x = x % 256 + 256 * (x / 256 % 256 + 256 * (x / 65536)) := by omega
  obtain ⟨hk, hle⟩ := n_byt (x % 256) (x / 256 % 256) (x / 65536) (by omega) (by omega) (by omega)
  rw [← hd] at hk hle
  have pa := (n_b8 (x % 256) (by omega)).2
  have pb := (n_b8 (x / 256 % 256) (by omega)).2
  have pc := (n_b8 (x / 65536) (by omega)).2
  generalize n_p8 (x % 256) = a at hk pa hq
  generalize n_p8 (x / 256 % 256) = b at hk pb hq
  generalize n_p8 (x / 65536) = c at hk pc hq
  have u1 : ((nI x).toUInt32 >>> ((1 : Int32).toUInt32 &&& Int32.toUInt32 31)).toInt32 = nI (x / 2 ^ 1) := pk_ushrN (by omega) 1 1 (by decide)
  have a1 : nI (x / 2 ^ 1) &&& (1431655765 : Int32) = nI (x / 2 &&& 1431655765) := by rw [zl, fa_and]
  have a2 : nI x - nI (x / 2 &&& 1431655765) = nI (n_s1 1431655765 x) := z_sub hle
  have l1 : n_s1 1431655765 x ≤ x := Nat.sub_le _ _
  have u2 : ((nI (n_s1 1431655765 x)).toUInt32 >>> ((2 : Int32).toUInt32 &&& Int32.toUInt32 31)).toInt32 = nI (n_s1 1431655765 x / 2 ^ 2) := pk_ushrN (by omega) 2 2 (by decide)
  have a3 : (nI (n_s1 1431655765 x) &&& (858993459 : Int32)) + (nI (n_s1 1431655765 x / 2 ^ 2) &&& (858993459 : Int32)) = nI (n_s2 858993459 (n_s1 1431655765 x)) := by rw [zl, fa_and, fa_and, z_add]; rfl
  have l2 : n_s2 858993459 (n_s1 1431655765 x) < 2 ^ 26 := by
    have q1 : (n_s1 1431655765 x &&& 858993459) ≤ n_s1 1431655765 x := Nat.and_le_left
    have q2 : (n_s1 1431655765 x / 4 &&& 858993459) ≤ n_s1 1431655765 x / 4 := Nat.and_le_left
    unfold n_s2; omega
  have u3 : ((nI (n_s2 858993459 (n_s1 1431655765 x))).toUInt32 >>> ((4 : Int32).toUInt32 &&& Int32.toUInt32 31)).toInt32 = nI (n_s2 858993459 (n_s1 1431655765 x) / 2 ^ 4) := pk_ushrN (by omega) 4 4 (by decide)
  have a4 : (nI (n_s2 858993459 (n_s1 1431655765 x)) + nI (n_s2 858993459 (n_s1 1431655765 x) / 2 ^ 4)) &&& (252645135 : Int32) = nI (n_s3 252645135 (n_s2 858993459 (n_s1 1431655765 x))) := by rw [zl, z_add, fa_and]; rfl
  rw [hk] at a4
  have u4 : ((nI (a + 256 * (b + 256 * c))).toUInt32 >>> ((8 : Int32).toUInt32 &&& Int32.toUInt32 31)).toInt32 = nI ((a + 256 * (b + 256 * c)) / 2 ^ 8) := pk_ushrN (by omega) 8 8 (by decide)
  have a5 : nI (a + 256 * (b + 256 * c)) + nI ((a + 256 * (b + 256 * c)) / 2 ^ 8) = nI (a + b + 256 * (b + c) + 65536 * c) := by rw [z_add]; congr 1; omega
  have u5 : ((nI (a + b + 256 * (b + c) + 65536 * c)).toUInt32 >>> ((16 : Int32).toUInt32 &&& Int32.toUInt32 31)).toInt32 = nI ((a + b + 256 * (b + c) + 65536 * c) / 2 ^ 16) := pk_ushrN (by omega) 16 16 (by decide)
  have a6 : (nI (a + b + 256 * (b + c) + 65536 * c) + nI ((a + b + 256 * (b + c) + 65536 * c) / 2 ^ 16)) &&& (63 : Int32) = nI (a + b + c) := by
    have q1 : (a + b + 256 * (b + c) + 65536 * c) / 2 ^ 16 = c := by clear hk hq a4 u4 a5 u5; omega
    rw [q1, z_add]
    have q2 : (a + b + 256 * (b + c) + 65536 * c + c) % 2 ^ 6 = a + b + c := by clear hk hq a4 u4 a5 u5; omega
    exact (fa_mask _ 6).trans (by rw [q2])
  unfold wJ6_bitCount_0f7a4
  simp only [u1, a1, a2, u2, a3, u3, a4, u4, a5, u5, a6]
  exact hq
/-- the least place where a bit is -/
theorem n_low (x p : Nat) (hp : p < 32) (hx : x < 2 ^ 32) (h1 : x.testBit p = true) (h0 : ∀ k, k < p → x.testBit k = false) : x = 2 ^ p * (2 * (x / 2 ^ (p + 1)) + 1) := by
  have e1 : x % 2 ^ p = 0 := by
    apply Nat.eq_of_testBit_eq
    intro i
    rw [Nat.testBit_mod_two_pow, Nat.zero_testBit]
    by_cases hi : i < p
    · simp [hi, h0 i hi]
    · simp [hi]
  have e2 : x / 2 ^ p % 2 = 1 := by
    rw [Nat.testBit_eq_decide_div_mod_eq] at h1
    simpa using h1
  have e3 : x / 2 ^ (p + 1) = x / 2 ^ p / 2 := by rw [Nat.pow_succ, Nat.div_div_eq_div_mul]
  rw [e3]
  have e4 := Nat.div_add_mod x (2 ^ p)
  have e5 := Nat.div_add_mod (x / 2 ^ p) 2
  rw [e2] at e5
  rw [e5]
  omega
theorem n_trail {x p : Nat} (hp : p < 32) (hx : x < 2 ^ 32) (h1 : x.testBit p = true) (h0 : ∀ k, k < p → x.testBit k = false) : (nI x ^^^ (-1)) &&& (nI x - 1) = nI (2 ^ p - 1) := by
  have hy := n_low x p hp hx h1 h0
  have hpp : 0 < 2 ^ p := Nat.two_pow_pos p
  have hle : 2 ^ p ≤ 2 ^ 31 := Nat.pow_le_pow_right (by omega) (by omega)
  have hx1 : 1 ≤ x := by
    rcases Nat.eq_zero_or_pos x with h | h
    · subst h; simp at h1
    · exact h
  have hs : nI x - 1 = nI (x - 1) := pk_sub hx1
  rw [hs]
  apply b_ext
  intro i hi
  rw [b_and, b_xor, b_m1 i hi, bt_nI hx, bt_nI (by omega), bt_nI (by omega), Nat.testBit_two_pow_sub_one]
  generalize x / 2 ^ (p + 1) = y at hy
  have hd : x - 1 = 2 ^ p * (2 * y) + (2 ^ p - 1) := by
    rw [hy, Nat.mul_add, Nat.mul_one]; omega
  rw [hd, Nat.testBit_two_pow_mul_add _ (by omega), Nat.testBit_two_pow_sub_one]
  by_cases hip : i < p
  · simp [hip, h0 i hip]
  · rw [if_neg hip, hy, Nat.testBit_two_pow_mul]
    have hge : p ≤ i := by omega
    simp only [hge, decide_true, Bool.true_and, hip, decide_false]
    obtain ⟨d, rfl⟩ : ∃ d, i = p + d := ⟨i - p, by omega⟩
    rw [show p + d - p = d by omega]
    cases d with
    | zero => simp
    | succ d =>
      have e1 : (2 * y + 1).testBit (d + 1) = (2 * y).testBit (d + 1) := by
        rw [Nat.testBit_succ, Nat.testBit_succ]; congr 1; omega
      rw [e1]; simp
set_option maxRecDepth 10000 in
theorem s_ntz {M : xM} {Q : Int32 → xM → Prop} {x : Int32} {p : Nat} (hp : p < 31) (h1 : bt x p = true) (h0 : ∀ k, k < p → bt x k = false) (hq : Q (nI p) M) : wJ6_numberOfTrailingZeros_0f7a4 M x Q := by
  obtain ⟨n, hn, rfl⟩ := wb_of32 x
  rw [bt_nI hn] at h1
  have h0' : ∀ k, k < p → n.testBit k = false := fun k hk => by rw [← bt_nI hn]; exact h0 k hk
  have e := n_trail (by omega) hn h1 h0'
  unfold wJ6_numberOfTrailingZeros_0f7a4 wJ6_numberOfTrailingZeros_0f7a4_34 wJ6_numberOfTrailingZeros_0f7a4_49 wJ6_numberOfTrailingZeros_0f7a4_62 wJ6_numberOfTrailingZeros_0f7a4_74
  rw [e]
  clear e h1 h0 h0'
  have key : ∀ p, p < 31 → ∀ C : Int32 → Prop, C (nI p) → (((0 < nI (2 ^ p - 1)) → ((((nI (2 ^ p - 1) ≤ (65536 : Int32)) → ((((nI (2 ^ p - 1)) ≤ (256 : Int32)) → ((((nI (2 ^ p - 1)) ≤ (16 : Int32)) → ((((nI (2 ^ p - 1)) ≤ (4 : Int32)) → C (nI p)) ∧ True)) ∧ True)) ∧ True)) ∧ True))) ∧ True) := by
    intro p hp C hC
    exact ⟨fun _ => ⟨fun _ => ⟨fun _ => ⟨fun _ => ⟨fun _ => hC, trivial⟩, trivial⟩, trivial⟩, trivial⟩, trivial⟩
  clear key
  rcases (show p = 0 ∨ p = 1 ∨ p = 2 ∨ p = 3 ∨ p = 4 ∨ p = 5 ∨ p = 6 ∨ p = 7 ∨ p = 8 ∨ p = 9 ∨ p = 10 ∨ p = 11 ∨ p = 12 ∨ p = 13 ∨ p = 14 ∨ p = 15 ∨ p = 16 ∨ p = 17 ∨ p = 18 ∨ p = 19 ∨ p = 20 ∨ p = 21 ∨ p = 22 ∨ p = 23 ∨ p = 24 ∨ p = 25 ∨ p = 26 ∨ p = 27 ∨ p = 28 ∨ p = 29 ∨ p = 30 by omega) with rfl | rfl | rfl | rfl | rfl | rfl | rfl | rfl | rfl | rfl | rfl | rfl | rfl | rfl | rfl | rfl | rfl | rfl | rfl | rfl | rfl | rfl | rfl | rfl | rfl | rfl | rfl | rfl | rfl | rfl | rfl
  all_goals refine ⟨fun z => ?_, fun z => ?_⟩
  all_goals first
    | exact absurd z (by decide)
    | (exact (show Q _ M from hq))
    | (refine ⟨fun z => ?_, fun z => ?_⟩
       all_goals first
         | exact absurd z (by decide)
         | (refine ⟨fun z => ?_, fun z => ?_⟩
            all_goals first
              | exact absurd z (by decide)
              | (refine ⟨fun z => ?_, fun z => ?_⟩
                 all_goals first
                   | exact absurd z (by decide)
                   | (refine ⟨fun z => ?_, fun z => ?_⟩
                      all_goals first
                        | exact absurd z (by decide)
                        | exact hq))))
