/-! the letters: the statements of a text, and what the class reads there -/
section T1
variable {M : xM}
def shP (c : Nat) : Nat := if c = 98 then 112 else if c = 101 then 113 else if c = 105 then 111 else if c = 109 then 114 else if c = 112 then 112 else if c = 117 then 115 else if c = 120 then 114 else 116
theorem shP_rng (c : Nat) : 111 ≤ shP c ∧ shP c ≤ 116 := by
  unfold shP
  (repeat' split) <;> omega
def shLen (c : Nat) : Nat := xsl (shP c - 110)
def shAt (c i : Nat) : Nat := if i < shLen c then (xsb (shP c - 110) i).toNatClampNeg else 59
theorem sx_len : ∀ t, t < 7 → 1 ≤ t → xsl t ≤ 4 := by decide +kernel
theorem shLen_le (c : Nat) : shLen c ≤ 4 := by
  have h := shP_rng c
  exact sx_len _ (by omega) (by omega)
theorem sx_at0 : ∀ t, t < 7 → ∀ k, k < 4 → (t == 0 || decide (xsl t ≤ k) || ((((xsb t k).toNatClampNeg == 57) || ((xsb t k).toNatClampNeg == 97) || ((xsb t k).toNatClampNeg == 107) || ((xsb t k).toNatClampNeg == 59)) && decide (xsb t k = nI ((xsb t k).toNatClampNeg)))) = true := by decide +kernel
theorem sx_at (t : Nat) (h1 : t < 7) (h2 : 1 ≤ t) (k : Nat) (h3 : k < 4) (h4 : k < xsl t) : ((xsb t k).toNatClampNeg = 57 ∨ (xsb t k).toNatClampNeg = 97 ∨ (xsb t k).toNatClampNeg = 107 ∨ (xsb t k).toNatClampNeg = 59) ∧ xsb t k = nI ((xsb t k).toNatClampNeg) := by
  have h := sx_at0 t h1 k h3
  simp only [Bool.or_eq_true, Bool.and_eq_true, beq_iff_eq, decide_eq_true_eq] at h
  rcases h with (h | h) | h
  · omega
  · omega
  · exact ⟨by omega, h.2⟩
theorem shAt_in (c i : Nat) : shAt c i = 57 ∨ shAt c i = 97 ∨ shAt c i = 107 ∨ shAt c i = 59 := by
  have h := shP_rng c
  have hl := shLen_le c
  unfold shAt
  by_cases z : i < shLen c
  · rw [if_pos z]
    exact (sx_at (shP c - 110) (by omega) (by omega) i (by omega) z).1
  · rw [if_neg z]; omega
def kdc (k : Nat) : Nat := ([110, 102, 100, 108, 103, 104] : List Nat).getD k 0
def kdOf (x : Nat) : Nat := fa_first (fun k => kdc k == x) 6
def isSt (x : Nat) : Bool := x == 98 || x == 99 || x == 101 || x == 105 || x == 109 || x == 112 || x == 117 || x == 120
def fit (a x : Nat) : Bool := if a = 57 then decide (48 ≤ x ∧ x ≤ 57) else if a = 97 then decide (97 ≤ x ∧ x ≤ 122) else if a = 107 then decide (kdOf x < 6) else decide (x = a)
theorem kd_x : ∀ x, x < 256 → ∀ k, k < 6 → decide (xsb 7 k = (nI x).toInt8.toInt32) = (kdc k == x) := by decide +kernel
theorem st_x : ∀ x, x < 256 → anyN (fun k => decide (xsb 0 k = (nI x).toInt8.toInt32)) 8 = isSt x := by decide +kernel
theorem ff_any {p : Nat → Bool} {n : Nat} : fa_first p n < n ↔ anyN p n = true := by
  constructor
  · intro h; exact anyN_iff.mpr ⟨_, h, fa_first_yes p n h⟩
  · intro h
    obtain ⟨k, hk, hp⟩ := anyN_iff.mp h
    refine Nat.lt_of_not_le fun z => ?_
    have := fa_first_no p n k (by omega)
    rw [hp] at this; cases this
theorem ff_cong {p q : Nat → Bool} : ∀ {n : Nat}, (∀ k, k < n → p k = q k) → fa_first p n = fa_first q n
  | 0, _ => rfl
  | n + 1, h => by
    have h1 := ff_cong (p := p) (q := q) (n := n) (fun k hk => h k (by omega))
    show (if fa_first p n < n then fa_first p n else if p n then n else n + 1) = (if fa_first q n < n then fa_first q n else if q n then n else n + 1)
    rw [h1, h n (by omega)]
-- the strings
theorem sx_shr : ∀ i, i < 9 → nI (xsl i) >>> ((0 : Int32) &&& 31) = nI (xsl i) := by decide +kernel
theorem s_len {t : Nat} {Q : Int32 → xM → Prop} (ht : 110 ≤ t ∧ t < 119) (hq : Q (nI (xsl (t - 110))) M) : wJ0_length_8abf5 M t Q := by
  unfold wJ0_length_8abf5 wJ0_coder_7d493 wJ0_coder_7d493_14
  show Q (nI (xsl (t + 20 - 130)) >>> ((0 : Int32) &&& 31)) M
  rw [show t + 20 - 130 = t - 110 by omega, sx_shr _ (by omega)]
  exact hq
theorem sx_chr : ∀ i, i < 9 → ∀ k, k < 8 → ((xsb i k &&& 255).toUInt32 % 65536).toInt32 = xsb i k ∧ (xsb i k).toUInt32.toUInt16.toUInt32.toInt32 = xsb i k := by decide +kernel
theorem sx_8 : ∀ i, i < 9 → xsl i ≤ 8 := by decide +kernel
theorem s_charAt {t i : Nat} {Q : Int32 → xM → Prop} (ht : 110 ≤ t ∧ t < 119) (hi : i < xsl (t - 110)) (hq : Q (xsb (t - 110) i) M) : wJ0_charAt_5068e M t (nI i) Q := by
  have h8 := sx_8 (t - 110) (by omega)
  have hc := sx_chr (t - 110) (by omega) i (by omega)
  unfold wJ0_charAt_5068e wJ0_isLatin1_aae02 wJ0_isLatin1_aae02_18 wJ1_charAt_3b067 wJ0_checkIndex_df160 wJ3_checkIndex_8e157
  rw [show t + 20 - 130 = t - 110 by omega, z_lt (by omega) (by omega), z_cl (by omega), z_in (by omega) (by omega), hc.1]
  refine ⟨fun z => absurd z (by decide), fun _ => ⟨fun z => absurd z (nI_pos (by omega)), fun _ => ⟨fun _ => ⟨hi, hc.2, hc.2, hq⟩, fun z => absurd hi z⟩⟩⟩
theorem s_indexOf {t n x : Nat} {Q : Int32 → xM → Prop} (ht : 110 ≤ t ∧ t < 119) (hx : x ≤ 255) (hn : xsl (t - 110) = n) (h0 : 0 < n) (h8 : n < 100) (hq : Q (if fa_first (fun k => decide (xsb (t - 110) k = (nI x).toInt8.toInt32)) n < n then nI (fa_first (fun k => decide (xsb (t - 110) k = (nI x).toInt8.toInt32)) n) else -1) M) : wJ0_indexOf_0f7a4 M t ((nI x).toUInt32 % 65536).toInt32 Q := by
  have ex : ((nI x).toUInt32 % 65536).toInt32 = nI x := by rw [pk_char, pk_tn (by omega), Nat.mod_eq_of_lt (by omega)]
  rw [ex]
  unfold wJ0_indexOf_0f7a4 wJ0_indexOf_7cf53 wJ0_isLatin1_aae02 wJ0_isLatin1_aae02_18 wJ0_indexOf_7cf53_36
  refine ⟨fun z => absurd z (by decide), fun _ => s_len ht ?_⟩
  unfold wJ1_indexOf_4cfef wJ1_canEncode_9a6ad wJ1_canEncode_9a6ad_15 wJ1_canEncode_9a6ad_16
  rw [show t + 20 - 130 = t - 110 by omega, hn, ite_self, ite_self]
  refine ⟨fun z => absurd z (nI_pos (by omega)), fun _ => ⟨fun z => ?_, fun _ => ⟨rfl, fun _ => ⟨fun _ => ?_, fun z => ?_⟩, fun z => absurd z (by decide)⟩⟩⟩
  · rw [show (255 : Int32) = nI 255 from rfl, z_lt (by omega) (by omega)] at z; omega
  · unfold wJ1_indexOfChar_4cfef
    have key := z_loop (P := fun m j => (∀ k, k < j → decide (xsb (t - 110) k = (nI x).toInt8.toInt32) = false) → lJ1_indexOfChar_4cfef_7 (t + 20) (nI x) 0 (nI n) Q m M (nI j)) n (fun m hb => ?_) (fun m j hj hm hb => ?_)
    · obtain ⟨m, hm⟩ := key
      exact ⟨m, hm (fun k hk => absurd hk (Nat.not_lt_zero k))⟩
    · unfold lJ1_indexOfChar_4cfef_7
      dsimp only
      rw [if_neg (ff_none hb)] at hq
      exact ⟨fun _ => hq, fun z => absurd ((z_le (by omega) (by omega)).mpr (Nat.le_refl n)) z⟩
    · unfold lJ1_indexOfChar_4cfef_7
      dsimp only
      rw [show t + 20 - 130 = t - 110 by omega, hn, z_le (by omega) (by omega), z_cl (by omega), z_in (by omega) (by omega), nI_1]
      refine ⟨fun z => absurd z (by omega), fun _ => ⟨hj, fun z => hm (lt_snoc hb (decide_eq_false z)), fun z => ?_⟩⟩
      have e : fa_first (fun k => decide (xsb (t - 110) k = (nI x).toInt8.toInt32)) n = j := ff_is hb (decide_eq_true z) hj
      rw [e, if_pos hj] at hq; exact hq
  · exfalso
    rw [show (0 : Int32) = nI 0 from rfl, z_lt (by omega) (by omega)] at z; omega
theorem s_kind {x : Nat} {Q : Int32 → xM → Prop} (hx : x ≤ 255) (hq : Q (if kdOf x < 6 then nI (kdOf x) else -1) M) : wJ0_indexOf_0f7a4 M 117 ((nI x).toUInt32 % 65536).toInt32 Q := by
  refine s_indexOf (n := 6) (by omega) hx rfl (by omega) (by omega) ?_
  have e : fa_first (fun k => decide (xsb 7 k = (nI x).toInt8.toInt32)) 6 = kdOf x := ff_cong fun k hk => kd_x x (by omega) k hk
  show Q (if fa_first (fun k => decide (xsb 7 k = (nI x).toInt8.toInt32)) 6 < 6 then nI (fa_first (fun k => decide (xsb 7 k = (nI x).toInt8.toInt32)) 6) else -1) M
  rw [e]; exact hq
theorem s_first {x : Nat} {Q : Int32 → xM → Prop} (hx : x ≤ 255) (h1 : isSt x = true → ∀ r : Int32, 0 ≤ r → Q r M) (h0 : isSt x = false → Q (-1) M) : wJ0_indexOf_0f7a4 M 110 ((nI x).toUInt32 % 65536).toInt32 Q := by
  refine s_indexOf (n := 8) (by omega) hx rfl (by omega) (by omega) ?_
  show Q (if fa_first (fun k => decide (xsb 0 k = (nI x).toInt8.toInt32)) 8 < 8 then nI (fa_first (fun k => decide (xsb 0 k = (nI x).toInt8.toInt32)) 8) else -1) M
  by_cases z : fa_first (fun k => decide (xsb 0 k = (nI x).toInt8.toInt32)) 8 < 8
  · rw [if_pos z]
    exact h1 ((st_x x (by omega)).symm.trans (ff_any.mp z)) _ (nI_pos' (by omega))
  · rw [if_neg z]
    refine h0 ((st_x x (by omega)).symm.trans ?_)
    rw [ff_any, Bool.not_eq_true] at z; exact z
-- the text
def badS (s : Nat → Nat) (nl st i : Nat) : Bool := !(decide (st + 1 + i < nl) && fit (shAt (s st) i) (s (st + 1 + i)))
def fS (s : Nat → Nat) (nl st i : Nat) : Nat := fa_first (badS s nl st) i
def okS (s : Nat → Nat) (nl st : Nat) : Bool := isSt (s st) && decide (fS s nl st (shLen (s st) + 1) = shLen (s st) + 1)
def stpS (s : Nat → Nat) (nl st : Nat) : Nat := if isSt (s st) = true then st + 1 + fS s nl st (shLen (s st) + 1) else st
def nxtS (s : Nat → Nat) (st : Nat) : Nat := st + shLen (s st) + 2
def posS (s : Nat → Nat) : Nat → Nat
  | 0 => 0
  | k + 1 => nxtS s (posS s k)
def stdS (s : Nat → Nat) (st : Nat) : Bool :=
  if s st = 98 ∨ s st = 109 then decide (10 * (s (st + 1) - 48) + (s (st + 2) - 48) < 24)
  else if s st = 101 ∨ s st = 120 then decide (s (st + 2) - 48 < 6)
  else if s st = 112 then decide (s (st + 2) - 48 < 3) else true
theorem fS_le (s : Nat → Nat) (nl st i : Nat) : fS s nl st i ≤ i := fa_first_le _ i
theorem okS_at {s : Nat → Nat} {nl st : Nat} (h : okS s nl st = true) : isSt (s st) = true ∧ (∀ i, i ≤ shLen (s st) → st + 1 + i < nl ∧ fit (shAt (s st) i) (s (st + 1 + i)) = true) ∧ ∀ i, i ≤ shLen (s st) + 1 → fS s nl st i = i := by
  unfold okS at h
  rw [Bool.and_eq_true, decide_eq_true_eq] at h
  have hb : ∀ i, i < shLen (s st) + 1 → badS s nl st i = false := fun i hi => fa_first_no (badS s nl st) (shLen (s st) + 1) i (by have := h.2; unfold fS at this; omega)
  refine ⟨h.1, fun i hi => ?_, fun i hi => ?_⟩
  · have := hb i (by omega)
    unfold badS at this
    rw [Bool.not_eq_false', Bool.and_eq_true, decide_eq_true_eq] at this
    exact this
  · have h1 := fS_le s nl st i
    rcases Nat.lt_or_ge (fS s nl st i) i with z | z
    · have := fa_first_yes (badS s nl st) i z
      rw [hb _ (by unfold fS at z h1; omega)] at this; cases this
    · omega
theorem okS_nxt {s : Nat → Nat} {nl st : Nat} (h : okS s nl st = true) : nxtS s st ≤ nl := by
  have := ((okS_at h).2.1 (shLen (s st)) (Nat.le_refl _)).1
  unfold nxtS; omega
theorem okS_stp {s : Nat → Nat} {nl st : Nat} (h : okS s nl st = true) : stpS s nl st = nxtS s st := by
  have h1 := okS_at h
  unfold stpS nxtS
  rw [if_pos h1.1, h1.2.2 _ (Nat.le_refl _)]; omega
theorem posS_2 (s : Nat → Nat) : ∀ k, 2 * k ≤ posS s k
  | 0 => Nat.le_refl 0
  | k + 1 => by
    have := posS_2 s k
    show 2 * (k + 1) ≤ posS s k + shLen (s (posS s k)) + 2
    omega
/-- m statements are right, the one behind them is not, or there is none -/
def endS (s : Nat → Nat) (nl m : Nat) : Prop := m ≤ 48 ∧ (∀ k, k < m → posS s k < nl ∧ okS s nl (posS s k) = true) ∧ (posS s m < nl → okS s nl (posS s m) = false)
theorem endS_ex (s : Nat → Nat) {nl : Nat} (h : nl ≤ 96) : ∃ m, endS s nl m := by
  obtain ⟨p, hp⟩ : ∃ p : Nat → Bool, p = fun k => !(decide (posS s k < nl) && okS s nl (posS s k)) := ⟨_, rfl⟩
  have h48 : p 48 = true := by
    have := posS_2 s 48
    rw [hp]
    simp only [Bool.not_eq_true', Bool.and_eq_false_iff, decide_eq_false_iff_not]
    exact Or.inl (by omega)
  have hlt : fa_first p 49 < 49 := ff_any.mpr (anyN_iff.mpr ⟨48, by omega, h48⟩)
  refine ⟨fa_first p 49, by omega, fun k hk => ?_, fun hm => ?_⟩
  · have := fa_first_no p 49 k hk
    rw [hp] at this
    simp only [Bool.not_eq_false', Bool.and_eq_true, decide_eq_true_eq] at this
    exact this
  · have := fa_first_yes p 49 hlt
    generalize fa_first p 49 = m at this hm
    rw [hp] at this
    simp only [Bool.not_eq_true', Bool.and_eq_false_iff, decide_eq_false_iff_not] at this
    rcases this with z | z
    · exact absurd hm z
    · exact z
theorem endS_all {s : Nat → Nat} {nl m : Nat} (h : endS s nl m) (hm : ¬ posS s m < nl) (h0 : 0 < nl) : posS s m = nl := by
  match m, h, hm with
  | 0, _, hm => exact absurd h0 hm
  | m + 1, h, hm =>
    have h1 := okS_nxt (h.2.1 m (by omega)).2
    have h2 : posS s (m + 1) = nxtS s (posS s m) := rfl
    omega
/-- the class's letters -/
def TX (M : xM) (s : Nat → Nat) (nl : Nat) : Prop := nl ≤ 96 ∧ M 46 1 = nI nl ∧ ∀ j, j < nl → s j ≤ 255 ∧ M 47 j = nI (s j)
variable {s : Nat → Nat} {nl : Nat}
theorem TX_same {M1 : xM} (h : TX M s nl) (e1 : M1 46 = M 46) (e2 : M1 47 = M 47) : TX M1 s nl := by
  unfold TX; rw [e1, e2]; exact h
def sgS (s : Nat → Nat) (nl j : Nat) : Nat := if j < nl then s j else 0
theorem sgS_at {j : Nat} (h : j < nl) : sgS s nl j = s j := if_pos h
theorem r_signAt {j : Nat} {Q : Int32 → xM → Prop} (hT : TX M s nl) (hj : j < 1000) (hq : Q (nI (sgS s nl j)) M) : wX1_signAt M (nI j) Q := by
  obtain ⟨h1, h2, h3⟩ := hT
  unfold wX1_signAt wX1_signAt_21 wX1_signAt_22
  rw [h2, z_le (by omega) (by omega), z_cl (by omega), z_in (by omega) (by omega)]
  unfold sgS at hq
  refine ⟨fun z => absurd z (nI_pos (by omega)), fun _ => ⟨fun z => ?_, fun z => ⟨by omega, ?_⟩⟩⟩
  · rw [if_neg (by omega)] at hq; exact hq
  · rw [if_pos (by omega)] at hq
    rw [(h3 j (by omega)).2]; exact hq
theorem r_shapeOf {c : Nat} {Q : Nat → xM → Prop} (hc : c < 1000) (hq : Q (shP c) M) : wX1_shapeOf M (nI c) Q := by
  unfold shP at hq
  unfold wX1_shapeOf wX1_shapeOf_111 wX1_shapeOf_117
  rw [show (nI c = (98 : Int32)) ↔ c = 98 from z_eq (b := 98) (by omega) (by omega), show (nI c = (101 : Int32)) ↔ c = 101 from z_eq (b := 101) (by omega) (by omega), show (nI c = (105 : Int32)) ↔ c = 105 from z_eq (b := 105) (by omega) (by omega), show (nI c = (109 : Int32)) ↔ c = 109 from z_eq (b := 109) (by omega) (by omega), show (nI c = (112 : Int32)) ↔ c = 112 from z_eq (b := 112) (by omega) (by omega), show (nI c = (117 : Int32)) ↔ c = 117 from z_eq (b := 117) (by omega) (by omega), show (nI c = (120 : Int32)) ↔ c = 120 from z_eq (b := 120) (by omega) (by omega)]
  refine ⟨fun z => by rw [if_pos z] at hq; exact hq, fun z1 => ⟨fun z => by rw [if_neg z1, if_pos z] at hq; exact hq, fun z2 => ⟨fun z => by rw [if_neg z1, if_neg z2, if_pos z] at hq; exact hq, fun z3 => ⟨fun z => by rw [if_neg z1, if_neg z2, if_neg z3, if_pos z] at hq; exact hq, fun z4 => ⟨fun z => by rw [if_neg z1, if_neg z2, if_neg z3, if_neg z4, if_pos z] at hq; exact hq, fun z5 => ⟨fun z => by rw [if_neg z1, if_neg z2, if_neg z3, if_neg z4, if_neg z5, if_pos z] at hq; exact hq, fun z6 => ⟨fun z => by rw [if_neg z1, if_neg z2, if_neg z3, if_neg z4, if_neg z5, if_neg z6, if_pos z] at hq; exact hq, fun z7 => by rw [if_neg z1, if_neg z2, if_neg z3, if_neg z4, if_neg z5, if_neg z6, if_neg z7] at hq; exact hq⟩⟩⟩⟩⟩⟩⟩
theorem r_lengthAt {st : Nat} {Q : Int32 → xM → Prop} (hT : TX M s nl) (hs : st < nl) (hq : Q (nI (shLen (s st) + 2)) M) : wX1_lengthAt M (nI st) Q := by
  have h := shP_rng (s st)
  have h3 := (hT.2.2 st hs).1
  have h1 := hT.1
  unfold wX1_lengthAt
  refine r_signAt hT (by omega) ?_
  rw [sgS_at hs]
  refine r_shapeOf (by omega) ⟨⟨by omega, by omega⟩, s_len ⟨by omega, by omega⟩ ?_⟩
  rw [show (2 : Int32) = nI 2 from rfl, nI_add]
  exact hq
theorem r_fits {a x : Nat} {Q : Int32 → xM → Prop} (ha : a = 57 ∨ a = 97 ∨ a = 107 ∨ a = 59) (hx : x ≤ 255) (hq : Q (bI (fit a x)) M) : wX1_fits M (nI a) (nI x) Q := by
  unfold fit at hq
  unfold wX1_fits wX1_fits_52 wX1_fits_53 wX1_fits_86 wX1_fits_87 wX1_fits_69 wX1_fits_98
  rcases ha with rfl | rfl | rfl | rfl
  · rw [if_pos rfl] at hq
    refine ⟨fun _ => ?_, fun q => absurd rfl q⟩
    rw [show (48 : Int32) = nI 48 from rfl, show (57 : Int32) = nI 57 from rfl, z_lt (by omega) (by omega), z_lt (by omega) (by omega)]
    refine ⟨fun z => ⟨rfl, ?_⟩, fun z => ⟨fun z2 => ⟨rfl, ?_⟩, fun z2 => ⟨rfl, ?_⟩⟩⟩
    · rw [decide_eq_false (by omega)] at hq; exact hq
    · rw [decide_eq_false (by omega)] at hq; exact hq
    · rw [decide_eq_true (by omega)] at hq; exact hq
  · rw [if_neg (by decide), if_pos rfl] at hq
    refine ⟨fun q => absurd q (by decide), fun _ => ⟨fun _ => ?_, fun q => absurd rfl q⟩⟩
    rw [show (97 : Int32) = nI 97 from rfl, show (122 : Int32) = nI 122 from rfl, z_lt (by omega) (by omega), z_lt (by omega) (by omega)]
    refine ⟨fun z => ⟨rfl, ?_⟩, fun z => ⟨fun z2 => ⟨rfl, ?_⟩, fun z2 => ⟨rfl, ?_⟩⟩⟩
    · rw [decide_eq_false (by omega)] at hq; exact hq
    · rw [decide_eq_false (by omega)] at hq; exact hq
    · rw [decide_eq_true (by omega)] at hq; exact hq
  · rw [if_neg (by decide), if_neg (by decide), if_pos rfl] at hq
    refine ⟨fun q => absurd q (by decide), fun _ => ⟨fun q => absurd q (by decide), fun _ => ⟨fun _ => s_kind hx ?_, fun q => absurd rfl q⟩⟩⟩
    by_cases z : kdOf x < 6
    · rw [if_pos z]
      rw [decide_eq_true z] at hq
      exact ⟨fun q => absurd q (nI_pos (by omega)), fun _ => ⟨rfl, hq⟩⟩
    · rw [if_neg z]
      rw [decide_eq_false z] at hq
      exact ⟨fun _ => ⟨rfl, hq⟩, fun q => absurd (by decide) q⟩
  · rw [if_neg (by decide), if_neg (by decide), if_neg (by decide)] at hq
    refine ⟨fun q => absurd q (by decide), fun _ => ⟨fun q => absurd q (by decide), fun _ => ⟨fun q => absurd q (by decide), fun _ => ?_⟩⟩⟩
    rw [z_eq (by omega) (by omega)]
    refine ⟨fun z => ⟨rfl, ?_⟩, fun z => ⟨rfl, ?_⟩⟩
    · rw [decide_eq_false z] at hq; exact hq
    · rw [decide_eq_true z] at hq; exact hq
theorem r_wrongLetterOf {st : Nat} {Q : Int32 → xM → Prop} (hT : TX M s nl) (hs : st < nl) (hq : Q (if okS s nl st = true then -9 else nI (stpS s nl st)) M) : wX1_wrongLetterOf M (nI st) Q := by
  have h1 := hT.1
  have h3 := (hT.2.2 st hs).1
  have hr := shP_rng (s st)
  have hl := shLen_le (s st)
  unfold wX1_wrongLetterOf
  refine r_signAt hT (by omega) ?_
  rw [sgS_at hs]
  refine s_first h3 (fun hi r hr0 => ⟨fun _ => ?_, fun z => absurd hr0 z⟩) (fun hi => ⟨fun z => absurd z (by decide), fun _ => ?_⟩)
  · refine r_signAt hT (by omega) ?_
    rw [sgS_at hs]
    refine r_shapeOf (by omega) ⟨by omega, ?_⟩
    have hst : xStp (shP (s st)) := ⟨by omega, by omega⟩
    have el : xsl (shP (s st) - 110) = shLen (s st) := rfl
    have key := z_loop (P := fun n j => (∀ k, k < j → badS s nl st k = false) → lX1_wrongLetterOf_27 (nI st) Q n M (shP (s st)) (nI j)) (shLen (s st) + 1) (fun n hb => ?_) (fun n j hj hn hb => ?_)
    · obtain ⟨n, hn⟩ := key
      exact ⟨n, hn (fun k hk => absurd hk (Nat.not_lt_zero k))⟩
    · have e : okS s nl st = true := by
        unfold okS
        rw [hi, Bool.true_and, decide_eq_true_eq]
        have h4 := fS_le s nl st (shLen (s st) + 1)
        have h5 : ¬ fS s nl st (shLen (s st) + 1) < shLen (s st) + 1 := ff_none hb
        omega
      rw [if_pos e] at hq
      unfold lX1_wrongLetterOf_27
      dsimp only
      refine ⟨hst, s_len hst ?_⟩
      rw [el, z_lt (by omega) (by omega)]
      exact ⟨fun _ => hq, fun z => absurd (by omega) z⟩
    · have stop : badS s nl st j = true → Q (nI (st + 1 + j)) M := fun hbad => by
        have e : fS s nl st (shLen (s st) + 1) = j := ff_is hb hbad hj
        have no : ¬ okS s nl st = true := fun q => by
          have := (okS_at q).2.2 _ (Nat.le_refl _)
          omega
        rw [if_neg no] at hq
        unfold stpS at hq
        rw [if_pos hi, e] at hq; exact hq
      have go : wX1_wrongLetterOf_60 (nI st) Q (lX1_wrongLetterOf_27 (nI st) Q n) M (shP (s st)) (nI j) ((nI st + (1 : Int32)) + nI j) (nI (shAt (s st) j)) := by
        unfold wX1_wrongLetterOf_60 wX1_wrongLetterOf_85
        rw [nI_1, nI_add, hT.2.1, z_le (by omega) (by omega), nI_1]
        refine ⟨fun z => stop ?_, fun z => r_signAt hT (by omega) ?_⟩
        · unfold badS; rw [decide_eq_false (by omega)]; rfl
        · rw [sgS_at (by omega)]
          refine r_fits (shAt_in _ _) (hT.2.2 _ (by omega)).1 ?_
          have eb : badS s nl st j = !fit (shAt (s st) j) (s (st + 1 + j)) := by unfold badS; rw [decide_eq_true (by omega), Bool.true_and]
          refine ⟨fun z2 => hn (lt_snoc hb ?_), fun z2 => stop ?_⟩
          · rw [eb, bI_ne z2]; rfl
          · rw [eb, (bI_0 _).mp z2]; rfl
      unfold lX1_wrongLetterOf_27
      dsimp only
      refine ⟨hst, s_len hst ?_⟩
      rw [el, z_lt (by omega) (by omega)]
      refine ⟨fun z => absurd z (by omega), fun _ => ⟨hst, s_len hst ?_⟩⟩
      rw [el, z_le (by omega) (by omega)]
      refine ⟨fun z => ?_, fun z => ⟨hst, s_charAt hst (by rw [el]; omega) ?_⟩⟩
      · have e : shAt (s st) j = 59 := by unfold shAt; rw [if_neg (by omega)]
        rw [e] at go; exact go
      · have e : xsb (shP (s st) - 110) j = nI (shAt (s st) j) := by
          unfold shAt
          rw [if_pos (by omega)]
          exact (sx_at (shP (s st) - 110) (by omega) (by omega) j (by omega) (by rw [el]; omega)).2
        rw [e]; exact go
  · have no : ¬ okS s nl st = true := fun q => by rw [(okS_at q).1] at hi; cases hi
    rw [if_neg no] at hq
    unfold stpS at hq
    rw [if_neg (by rw [hi]; decide)] at hq
    exact hq
theorem r_placeOfWrongLetter {m : Nat} {Q : Int32 → xM → Prop} (hT : TX M s nl) (hE : endS s nl m) (h0 : 0 < nl) (hq : Q (if posS s m < nl then nI (stpS s nl (posS s m)) else -9) M) : wX1_placeOfWrongLetter M Q := by
  have h1 := hT.1
  obtain ⟨e1, e2, e3⟩ := hE
  unfold wX1_placeOfWrongLetter
  rw [hT.2.1]
  refine ⟨fun _ => ?_, fun z => absurd z (nI_ne0 h0 (by omega))⟩
  have pb : ∀ k, k ≤ m → posS s k < 1000 := fun k hk => by
    match k, hk with
    | 0, _ => exact Nat.zero_lt_succ _
    | k + 1, hk =>
      have h4 := e2 k (by omega)
      have h5 := okS_nxt h4.2
      show nxtS s (posS s k) < 1000
      omega
  have key := z_loop (P := fun n k => lX1_placeOfWrongLetter_16 Q (n + 1) M (-9) (nI (posS s k)) (nI k)) m (fun n => ?_) (fun n k hk hn => ?_)
  · obtain ⟨n, hn⟩ := key
    exact ⟨n + 1, hn⟩
  · have b := pb m (Nat.le_refl m)
    unfold lX1_placeOfWrongLetter_16 wX1_placeOfWrongLetter_56
    dsimp only
    rw [hT.2.1, show (96 : Int32) = nI 96 from rfl, z_le (by omega) (by omega), z_le (by omega) (by omega)]
    refine ⟨fun z => absurd z (by omega), fun _ => ⟨fun z => ?_, fun z => ⟨fun z2 => absurd rfl z2, fun _ => ?_⟩⟩⟩
    · rw [if_neg (by omega)] at hq; exact hq
    · have hlt : posS s m < nl := by omega
      have hno := e3 hlt
      rw [if_pos hlt] at hq
      refine r_wrongLetterOf hT hlt (r_lengthAt hT hlt ?_)
      rw [if_neg (by rw [hno]; decide)]
      unfold lX1_placeOfWrongLetter_16 wX1_placeOfWrongLetter_56
      dsimp only
      refine ⟨fun _ => hq, fun _ => ⟨fun _ => hq, fun _ => ⟨fun _ => hq, fun z2 => ?_⟩⟩⟩
      have hb : stpS s nl (posS s m) < 1000 := by
        have := fS_le s nl (posS s m) (shLen (s (posS s m)) + 1)
        have := shLen_le (s (posS s m))
        unfold stpS; split <;> omega
      rw [show (-9 : Int32) = -nI 9 from rfl, z_neq (by omega) (by omega) (by omega)] at z2; exact z2.elim
  · have hk2 := e2 k hk
    have b := pb k (by omega)
    unfold lX1_placeOfWrongLetter_16 wX1_placeOfWrongLetter_56
    dsimp only
    rw [hT.2.1, show (96 : Int32) = nI 96 from rfl, z_le (by omega) (by omega), z_le (by omega) (by omega), nI_1]
    refine ⟨fun z => absurd z (by omega), fun _ => ⟨fun z => absurd z (by omega), fun z => ⟨fun z2 => absurd rfl z2, fun _ => ?_⟩⟩⟩
    refine r_wrongLetterOf hT hk2.1 (r_lengthAt hT hk2.1 ?_)
    rw [if_pos hk2.2, nI_add]
    exact hn
end T1
