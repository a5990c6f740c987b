/-! the letters: the class's fault, the class carries a statement out -/
section T2
variable {M : xM} {s : Nat → Nat} {nl : Nat} {A : Nat → Nat} {rf : Nat → Bool}
theorem dig_of {x : Nat} (h : fit 57 x = true) : 48 ≤ x ∧ x ≤ 57 := by
  unfold fit at h
  rw [if_pos rfl] at h
  exact of_decide_eq_true h
theorem nam_of {x : Nat} (h : fit 97 x = true) : 97 ≤ x ∧ x ≤ 122 := by
  unfold fit at h
  rw [if_neg (by decide), if_pos rfl] at h
  exact of_decide_eq_true h
theorem kin_of {x : Nat} (h : fit 107 x = true) : kdOf x < 6 := by
  unfold fit at h
  rw [if_neg (by decide), if_neg (by decide), if_pos rfl] at h
  exact of_decide_eq_true h
theorem okS_sym {st c i a : Nat} (h : okS s nl st = true) (hc : s st = c) (hi : i ≤ shLen c) (ha : shAt c i = a) : st + 1 + i < nl ∧ fit a (s (st + 1 + i)) = true := by
  subst hc; subst ha
  exact (okS_at h).2.1 i hi
theorem okS_dig {st c i : Nat} (h : okS s nl st = true) (hc : s st = c) (hi : i ≤ shLen c) (ha : shAt c i = 57) : st + 1 + i < nl ∧ 48 ≤ s (st + 1 + i) ∧ s (st + 1 + i) ≤ 57 :=
  ⟨(okS_sym h hc hi ha).1, dig_of (okS_sym h hc hi ha).2⟩
def dg (s : Nat → Nat) (j : Nat) : Nat := s j - 48
theorem r_digitAt {j : Nat} {Q : Int32 → xM → Prop} (hT : TX M s nl) (hj : j < 1000) (hq : Q (nI (sgS s nl j) - 48) M) : wX1_digitAt M (nI j) Q := by
  unfold wX1_digitAt
  exact r_signAt hT hj hq
theorem r_digitOf {j : Nat} {Q : Int32 → xM → Prop} (hT : TX M s nl) (hj : j < nl ∧ 48 ≤ s j ∧ s j ≤ 57) (hq : Q (nI (dg s j)) M) : wX1_digitAt M (nI j) Q := by
  have h1 := hT.1
  refine r_digitAt hT (by omega) ?_
  rw [sgS_at hj.1, show nI (s j) - (48 : Int32) = nI (dg s j) from z_sub (b := 48) hj.2.1]
  exact hq
theorem r_pairAt {j : Nat} {Q : Int32 → xM → Prop} (hT : TX M s nl) (hj : j < 999) (hq : Q (10 * (nI (sgS s nl j) - 48) + (nI (sgS s nl (j + 1)) - 48)) M) : wX1_pairAt M (nI j) Q := by
  unfold wX1_pairAt
  refine r_digitAt hT (by omega) ?_
  rw [nI_1]
  exact r_digitAt hT (by omega) hq
theorem pair_is {j : Nat} (hj : j < nl ∧ 48 ≤ s j ∧ s j ≤ 57) (hj2 : j + 1 < nl ∧ 48 ≤ s (j + 1) ∧ s (j + 1) ≤ 57) : (10 : Int32) * (nI (sgS s nl j) - 48) + (nI (sgS s nl (j + 1)) - 48) = nI (10 * dg s j + dg s (j + 1)) := by
  rw [sgS_at hj.1, sgS_at hj2.1, show nI (s j) - (48 : Int32) = nI (dg s j) from z_sub (b := 48) hj.2.1, show nI (s (j + 1)) - (48 : Int32) = nI (dg s (j + 1)) from z_sub (b := 48) hj2.2.1, show (10 : Int32) = nI 10 from rfl, z_mul, z_add]
theorem r_pairOf {j : Nat} {Q : Int32 → xM → Prop} (hT : TX M s nl) (hj : j < nl ∧ 48 ≤ s j ∧ s j ≤ 57) (hj2 : j + 1 < nl ∧ 48 ≤ s (j + 1) ∧ s (j + 1) ≤ 57) (hq : Q (nI (10 * dg s j + dg s (j + 1))) M) : wX1_pairAt M (nI j) Q := by
  have h1 := hT.1
  refine r_pairAt hT (by omega) ?_
  rw [pair_is hj hj2]; exact hq
theorem r_stands {st : Nat} {Q : Int32 → xM → Prop} (hT : TX M s nl) (hs : st < nl) (hk : okS s nl st = true) (hq : Q (bI (stdS s st)) M) : wX1_stands M (nI st) Q := by
  have h1 := hT.1
  have h3 := (hT.2.2 st hs).1
  have e1 : nI st + (1 : Int32) = nI (st + 1) := z_add st 1
  have e2 : nI st + (2 : Int32) = nI (st + 2) := z_add st 2
  unfold wX1_stands wX1_stands_72 wX1_stands_73 wX1_stands_90 wX1_stands_91 wX1_stands_108
  refine r_signAt hT (by omega) ?_
  rw [sgS_at hs, e1, e2, show (nI (s st) = (98 : Int32)) ↔ s st = 98 from z_eq (b := 98) (by omega) (by omega), show (nI (s st) = (101 : Int32)) ↔ s st = 101 from z_eq (b := 101) (by omega) (by omega), show (nI (s st) = (109 : Int32)) ↔ s st = 109 from z_eq (b := 109) (by omega) (by omega), show (nI (s st) = (112 : Int32)) ↔ s st = 112 from z_eq (b := 112) (by omega) (by omega), show (nI (s st) = (120 : Int32)) ↔ s st = 120 from z_eq (b := 120) (by omega) (by omega)]
  have pr : (s st = 98 ∨ s st = 109) → (st + 1 < nl ∧ 48 ≤ s (st + 1) ∧ s (st + 1) ≤ 57) → (st + 1 + 1 < nl ∧ 48 ≤ s (st + 1 + 1) ∧ s (st + 1 + 1) ≤ 57) → wX1_pairAt M (nI (st + 1)) (fun r95 M95 => ((24 : Int32) ≤ r95 → ((0 : Int32) &&& 1 = 0) ∧ Q 0 M95) ∧ (¬ (24 : Int32) ≤ r95 → ((1 : Int32) &&& 1 = 1) ∧ Q 1 M95)) := fun hc d1 d2 => by
    refine r_pairOf hT d1 d2 ?_
    have b1 : dg s (st + 1) ≤ 9 := by unfold dg; omega
    have b2 : dg s (st + 1 + 1) ≤ 9 := by unfold dg; omega
    unfold stdS at hq
    rw [if_pos hc] at hq
    have e : 10 * (s (st + 1) - 48) + (s (st + 2) - 48) = 10 * dg s (st + 1) + dg s (st + 1 + 1) := rfl
    rw [e] at hq
    rw [show (24 : Int32) = nI 24 from rfl, z_le (by omega) (by omega)]
    refine ⟨fun z => ⟨rfl, ?_⟩, fun z => ⟨rfl, ?_⟩⟩
    · rw [decide_eq_false (by omega)] at hq; exact hq
    · rw [decide_eq_true (by omega)] at hq; exact hq
  have sl : (s st = 101 ∨ s st = 120) → (st + 2 < nl ∧ 48 ≤ s (st + 2) ∧ s (st + 2) ≤ 57) → wX1_digitAt M (nI (st + 2)) (fun r77 M77 => ((6 : Int32) ≤ r77 → ((0 : Int32) &&& 1 = 0) ∧ Q 0 M77) ∧ (¬ (6 : Int32) ≤ r77 → ((1 : Int32) &&& 1 = 1) ∧ Q 1 M77)) := fun hc d2 => by
    refine r_digitOf hT d2 ?_
    have b2 : dg s (st + 2) ≤ 9 := by unfold dg; omega
    unfold stdS at hq
    rw [if_neg (by omega), if_pos hc] at hq
    have e : s (st + 2) - 48 = dg s (st + 2) := rfl
    rw [e] at hq
    rw [show (6 : Int32) = nI 6 from rfl, z_le (by omega) (by omega)]
    refine ⟨fun z => ⟨rfl, ?_⟩, fun z => ⟨rfl, ?_⟩⟩
    · rw [decide_eq_false (by omega)] at hq; exact hq
    · rw [decide_eq_true (by omega)] at hq; exact hq
  refine ⟨fun z => ?_, fun z1 => ⟨fun z => ?_, fun z2 => ⟨fun z => ?_, fun z3 => ⟨fun z => ?_, fun z4 => ⟨fun z => ?_, fun z5 => ?_⟩⟩⟩⟩⟩
  · exact pr (Or.inl z) (okS_dig hk z (i := 0) (by decide +kernel) (by decide +kernel)) (okS_dig hk z (i := 1) (by decide +kernel) (by decide +kernel))
  · exact sl (Or.inl z) (okS_dig hk z (i := 1) (by decide +kernel) (by decide +kernel))
  · exact pr (Or.inr z) (okS_dig hk z (i := 0) (by decide +kernel) (by decide +kernel)) (okS_dig hk z (i := 1) (by decide +kernel) (by decide +kernel))
  · have d2 : st + 2 < nl ∧ 48 ≤ s (st + 2) ∧ s (st + 2) ≤ 57 := okS_dig hk z (i := 1) (by decide +kernel) (by decide +kernel)
    refine r_digitOf hT d2 ?_
    have b2 : dg s (st + 2) ≤ 9 := by unfold dg; omega
    unfold stdS at hq
    rw [if_neg (by omega), if_neg (by omega), if_pos z] at hq
    have e : s (st + 2) - 48 = dg s (st + 2) := rfl
    rw [e] at hq
    rw [show (3 : Int32) = nI 3 from rfl, z_le (by omega) (by omega)]
    refine ⟨fun z => ⟨rfl, ?_⟩, fun z => ⟨rfl, ?_⟩⟩
    · rw [decide_eq_false (by omega)] at hq; exact hq
    · rw [decide_eq_true (by omega)] at hq; exact hq
  · exact sl (Or.inr z) (okS_dig hk z (i := 1) (by decide +kernel) (by decide +kernel))
  · unfold stdS at hq
    rw [if_neg (by omega), if_neg (by omega), if_neg z4] at hq
    exact hq
theorem posS_b {m : Nat} (hl : nl ≤ 96) (hE : endS s nl m) : ∀ k, k ≤ m → posS s k < 1000
  | 0, _ => Nat.zero_lt_succ _
  | k + 1, hk => by
    have h4 := hE.2.1 k (by omega)
    have h5 := okS_nxt h4.2
    show nxtS s (posS s k) < 1000
    omega
/-- the first statement that is not as it must be; m: none -/
def strS (s : Nat → Nat) (m : Nat) : Nat := fa_first (fun k => !stdS s (posS s k)) m
theorem r_placeOfWrongStatement {m : Nat} {Q : Int32 → xM → Prop} (hT : TX M s nl) (hE : endS s nl m) (h0 : ¬ posS s m < nl) (hq : Q (if strS s m < m then nI (posS s (strS s m)) else -9) M) : wX1_placeOfWrongStatement M Q := by
  have h1 := hT.1
  have pb := posS_b h1 hE
  obtain ⟨e1, e2, e3⟩ := hE
  unfold wX1_placeOfWrongStatement
  have key := z_loop (P := fun n k => (∀ j, j < k → (fun k => !stdS s (posS s k)) j = false) → lX1_placeOfWrongStatement_4 Q n M (nI (posS s k)) (nI k)) m (fun n hb => ?_) (fun n k hk hn hb => ?_)
  · obtain ⟨n, hn⟩ := key
    exact ⟨n, hn (fun k hk => absurd hk (Nat.not_lt_zero k))⟩
  · have b := pb m (Nat.le_refl m)
    unfold strS at hq
    rw [if_neg (ff_none hb)] at hq
    unfold lX1_placeOfWrongStatement_4 wX1_placeOfWrongStatement_42
    dsimp only
    rw [hT.2.1, z_le (by omega) (by omega)]
    exact ⟨fun _ => hq, fun _ => ⟨fun _ => hq, fun z => absurd (by omega) z⟩⟩
  · have hk2 := e2 k hk
    have b := pb k (by omega)
    unfold lX1_placeOfWrongStatement_4 wX1_placeOfWrongStatement_42
    dsimp only
    rw [hT.2.1, show (96 : Int32) = nI 96 from rfl, z_le (by omega) (by omega), z_le (by omega) (by omega), nI_1]
    refine ⟨fun z => absurd z (by omega), fun _ => ⟨fun z => absurd z (by omega), fun _ => r_stands hT hk2.1 hk2.2 ⟨fun z => r_lengthAt hT hk2.1 ?_, fun z => ?_⟩⟩⟩
    · rw [nI_add]
      exact hn (lt_snoc hb (by show (!stdS s (posS s k)) = false; rw [bI_ne z]; rfl))
    · have e : strS s m = k := ff_is hb (by show (!stdS s (posS s k)) = true; rw [(bI_0 _).mp z]; rfl) hk
      rw [e, if_pos hk] at hq; exact hq
/-- the fault of a text: 0 none -/
def fltS (s : Nat → Nat) (nl m : Nat) : Int32 := if posS s m < nl then -1000 - nI (stpS s nl (posS s m)) else if strS s m < m then -2000 - nI (posS s (strS s m)) else 0
theorem stpS_b {st : Nat} : stpS s nl st ≤ st + 6 := by
  have := fS_le s nl st (shLen (s st) + 1)
  have := shLen_le (s st)
  unfold stpS; split <;> omega
theorem r_fault {m : Nat} {Q : Int32 → xM → Prop} (hT : TX M s nl) (hE : endS s nl m) (h0 : 0 < nl) (hq : Q (fltS s nl m) M) : wX1_fault M Q := by
  have h1 := hT.1
  have m9 : (-9 : Int32) = -nI 9 := rfl
  unfold wX1_fault wX1_fault_37
  refine r_placeOfWrongLetter hT hE h0 ?_
  unfold fltS at hq
  by_cases z : posS s m < nl
  · rw [if_pos z] at hq ⊢
    have hb : stpS s nl (posS s m) ≤ posS s m + 6 := stpS_b
    refine ⟨fun q => ?_, fun _ => hq⟩
    rw [m9, z_neq (by omega) (by omega) (by omega)] at q; exact q.elim
  · rw [if_neg z] at hq ⊢
    refine ⟨fun _ => r_placeOfWrongStatement hT hE z ?_, fun q => absurd rfl q⟩
    by_cases w : strS s m < m
    · rw [if_pos w] at hq ⊢
      have hb := posS_b h1 hE (strS s m) (by omega)
      refine ⟨fun q => ?_, fun _ => hq⟩
      rw [m9, z_neq (by omega) (by omega) (by omega)] at q; exact q.elim
    · rw [if_neg w] at hq ⊢
      exact ⟨fun _ => hq, fun q => absurd rfl q⟩
theorem r_fault0 {Q : Int32 → xM → Prop} (hT : TX M s 0) (hq : Q (-1000 - 0) M) : wX1_fault M Q := by
  unfold wX1_fault wX1_placeOfWrongLetter
  rw [hT.2.1]
  exact ⟨fun z => absurd rfl z, fun _ => ⟨fun z => absurd z (by decide), fun _ => hq⟩⟩
/-- a statement, done -/
def pSt (rf : Nat → Bool) (s : Nat → Nat) (st : Nat) (A : Nat → Nat) : Nat → Nat :=
  if s st = 98 then aUp A (120 + (10 * dg s (st + 1) + dg s (st + 2))) (10 * dg s (st + 3) + dg s (st + 4))
  else if s st = 101 then aUp A (60 + (6 * dg s (st + 1) + dg s (st + 2))) (26 * dg s (st + 4) + (s (st + 3) - 97))
  else if s st = 105 then aUp (aUp (aUp A (dg s (st + 1)) (kdOf (s (st + 2)))) (10 + dg s (st + 1)) (dg s (st + 3))) (20 + dg s (st + 1)) (dg s (st + 4))
  else if s st = 109 then aUp A 144 (A 144 ^^^ 2 ^ (10 * dg s (st + 1) + dg s (st + 2)))
  else if s st = 112 then aUp A (30 + (3 * dg s (st + 1) + dg s (st + 2))) (10 * dg s (st + 3) + dg s (st + 4))
  else if s st = 117 then aUp A 145 (A 145 ^^^ 2 ^ dg s (st + 1))
  else if s st = 120 then aUp A (60 + (6 * dg s (st + 1) + dg s (st + 2))) 260
  else (pChk rf A).1
/-- what a right statement's letters are -/
def digS (s : Nat → Nat) (nl j : Nat) : Prop := j < nl ∧ 48 ≤ s j ∧ s j ≤ 57
theorem digS_9 {j : Nat} (h : digS s nl j) : dg s j ≤ 9 := by unfold digS at h; unfold dg; omega
theorem okS_98 {st : Nat} (h : okS s nl st = true) (hc : s st = 98) : digS s nl (st + 1) ∧ digS s nl (st + 2) ∧ digS s nl (st + 3) ∧ digS s nl (st + 4) :=
  ⟨okS_dig h hc (i := 0) (by decide +kernel) (by decide +kernel), okS_dig h hc (i := 1) (by decide +kernel) (by decide +kernel), okS_dig h hc (i := 2) (by decide +kernel) (by decide +kernel), okS_dig h hc (i := 3) (by decide +kernel) (by decide +kernel)⟩
theorem okS_112 {st : Nat} (h : okS s nl st = true) (hc : s st = 112) : digS s nl (st + 1) ∧ digS s nl (st + 2) ∧ digS s nl (st + 3) ∧ digS s nl (st + 4) :=
  ⟨okS_dig h hc (i := 0) (by decide +kernel) (by decide +kernel), okS_dig h hc (i := 1) (by decide +kernel) (by decide +kernel), okS_dig h hc (i := 2) (by decide +kernel) (by decide +kernel), okS_dig h hc (i := 3) (by decide +kernel) (by decide +kernel)⟩
theorem okS_101 {st : Nat} (h : okS s nl st = true) (hc : s st = 101) : digS s nl (st + 1) ∧ digS s nl (st + 2) ∧ (st + 3 < nl ∧ 97 ≤ s (st + 3) ∧ s (st + 3) ≤ 122) ∧ digS s nl (st + 4) :=
  ⟨okS_dig h hc (i := 0) (by decide +kernel) (by decide +kernel), okS_dig h hc (i := 1) (by decide +kernel) (by decide +kernel), ⟨(okS_sym h hc (i := 2) (a := 97) (by decide +kernel) (by decide +kernel)).1, nam_of (okS_sym h hc (i := 2) (a := 97) (by decide +kernel) (by decide +kernel)).2⟩, okS_dig h hc (i := 3) (by decide +kernel) (by decide +kernel)⟩
theorem okS_105 {st : Nat} (h : okS s nl st = true) (hc : s st = 105) : digS s nl (st + 1) ∧ (st + 2 < nl ∧ kdOf (s (st + 2)) < 6) ∧ digS s nl (st + 3) ∧ digS s nl (st + 4) :=
  ⟨okS_dig h hc (i := 0) (by decide +kernel) (by decide +kernel), ⟨(okS_sym h hc (i := 1) (a := 107) (by decide +kernel) (by decide +kernel)).1, kin_of (okS_sym h hc (i := 1) (a := 107) (by decide +kernel) (by decide +kernel)).2⟩, okS_dig h hc (i := 2) (by decide +kernel) (by decide +kernel), okS_dig h hc (i := 3) (by decide +kernel) (by decide +kernel)⟩
theorem okS_109 {st : Nat} (h : okS s nl st = true) (hc : s st = 109) : digS s nl (st + 1) ∧ digS s nl (st + 2) :=
  ⟨okS_dig h hc (i := 0) (by decide +kernel) (by decide +kernel), okS_dig h hc (i := 1) (by decide +kernel) (by decide +kernel)⟩
theorem okS_120 {st : Nat} (h : okS s nl st = true) (hc : s st = 120) : digS s nl (st + 1) ∧ digS s nl (st + 2) :=
  ⟨okS_dig h hc (i := 0) (by decide +kernel) (by decide +kernel), okS_dig h hc (i := 1) (by decide +kernel) (by decide +kernel)⟩
theorem okS_117 {st : Nat} (h : okS s nl st = true) (hc : s st = 117) : digS s nl (st + 1) :=
  okS_dig h hc (i := 0) (by decide +kernel) (by decide +kernel)
theorem std_pair {st : Nat} (h : stdS s st = true) (hc : s st = 98 ∨ s st = 109) : 10 * dg s (st + 1) + dg s (st + 2) < 24 := by
  unfold stdS at h
  rw [if_pos hc] at h
  exact of_decide_eq_true h
theorem std_slot {st : Nat} (h : stdS s st = true) (hc : s st = 101 ∨ s st = 120) : dg s (st + 2) < 6 := by
  unfold stdS at h
  rw [if_neg (by omega), if_pos hc] at h
  exact of_decide_eq_true h
theorem std_ptr {st : Nat} (h : stdS s st = true) (hc : s st = 112) : dg s (st + 2) < 3 := by
  unfold stdS at h
  rw [if_neg (by omega), if_neg (by omega), if_pos hc] at h
  exact of_decide_eq_true h
theorem pSt_ok {st : Nat} (hO : aOK A) (hk : okS s nl st = true) (hd : stdS s st = true) : aOK (pSt rf s st A) := by
  unfold pSt
  by_cases c1 : s st = 98
  · rw [if_pos c1]
    obtain ⟨d1, d2, d3, d4⟩ := okS_98 hk c1
    have := std_pair hd (Or.inl c1)
    have := digS_9 d3
    have := digS_9 d4
    exact aOK_byt hO (by omega) (by omega)
  rw [if_neg c1]
  by_cases c2 : s st = 101
  · rw [if_pos c2]
    obtain ⟨d1, d2, d3, d4⟩ := okS_101 hk c2
    have := std_slot hd (Or.inl c2)
    have := digS_9 d1
    have := digS_9 d4
    exact aOK_ent hO (by omega) (by omega)
  rw [if_neg c2]
  by_cases c3 : s st = 105
  · rw [if_pos c3]
    obtain ⟨d1, d2, d3, d4⟩ := okS_105 hk c3
    have := digS_9 d1
    have := digS_9 d3
    have := digS_9 d4
    exact aOK_par (aOK_link (aOK_kind hO (by omega) d2.2) (by omega) (by omega)) (by omega) (by omega)
  rw [if_neg c3]
  by_cases c4 : s st = 109
  · rw [if_pos c4]
    exact aOK_bm hO (x_lt hO.2.2.2.2.2.2.1 (std_pair hd (Or.inr c4)))
  rw [if_neg c4]
  by_cases c5 : s st = 112
  · rw [if_pos c5]
    obtain ⟨d1, d2, d3, d4⟩ := okS_112 hk c5
    have := std_ptr hd c5
    have := digS_9 d1
    have := digS_9 d3
    have := digS_9 d4
    exact aOK_ptr hO (by omega) (by omega)
  rw [if_neg c5]
  by_cases c6 : s st = 117
  · rw [if_pos c6]
    have := digS_9 (okS_117 hk c6)
    exact aOK_im hO (x_lt hO.2.2.2.2.2.2.2 (by omega))
  rw [if_neg c6]
  by_cases c7 : s st = 120
  · rw [if_pos c7]
    obtain ⟨d1, d2⟩ := okS_120 hk c7
    have := std_slot hd (Or.inr c7)
    have := digS_9 d1
    exact aOK_ent hO (by omega) (by omega)
  rw [if_neg c7]
  exact (pChk_J hO).1.1
theorem c_carry {st : Nat} {Q : xM → Prop} (hC : CV M 1 A) (hO : aOK A) (h11 : M 0 11 = bs rf 17) (hr : rfOK rf) (hT : TX M s nl) (hs : st < nl) (hk : okS s nl st = true) (hd : stdS s st = true) (hq : ∀ M1, CV M1 1 (pSt rf s st A) → cOff M M1 → M1 0 11 = bs rf 17 → Q M1) : wX3_carryOut M (nI st) Q := by
  have h1 := hT.1
  have h3 := (hT.2.2 st hs).1
  have e1 : nI st + (1 : Int32) = nI (st + 1) := z_add st 1
  have e2 : nI st + (2 : Int32) = nI (st + 2) := z_add st 2
  have e3 : nI st + (3 : Int32) = nI (st + 3) := z_add st 3
  have e4 : nI st + (4 : Int32) = nI (st + 4) := z_add st 4
  unfold pSt at hq
  unfold wX3_carryOut wX3_carryOut_370
  rw [e1, e2, e3, e4]
  refine r_digitAt hT (by omega) (r_digitAt hT (by omega) (r_pairAt hT (by omega) (r_signAt hT (by omega) ?_)))
  rw [sgS_at hs, show (nI (s st) = (98 : Int32)) ↔ s st = 98 from z_eq (b := 98) (by omega) (by omega), show (nI (s st) = (101 : Int32)) ↔ s st = 101 from z_eq (b := 101) (by omega) (by omega), show (nI (s st) = (105 : Int32)) ↔ s st = 105 from z_eq (b := 105) (by omega) (by omega), show (nI (s st) = (109 : Int32)) ↔ s st = 109 from z_eq (b := 109) (by omega) (by omega), show (nI (s st) = (112 : Int32)) ↔ s st = 112 from z_eq (b := 112) (by omega) (by omega), show (nI (s st) = (117 : Int32)) ↔ s st = 117 from z_eq (b := 117) (by omega) (by omega), show (nI (s st) = (120 : Int32)) ↔ s st = 120 from z_eq (b := 120) (by omega) (by omega)]
  have dig : ∀ j, digS s nl j → nI (sgS s nl j) - (48 : Int32) = nI (dg s j) := fun j h => by
    rw [sgS_at h.1]; exact z_sub (b := 48) h.2.1
  refine ⟨fun c1 => ?_, fun c1 => ⟨fun c2 => ?_, fun c2 => ⟨fun c3 => ?_, fun c3 => ⟨fun c4 => ?_, fun c4 => ⟨fun c5 => ?_, fun c5 => ⟨fun c6 => ?_, fun c6 => ⟨fun c7 => ?_, fun c7 => ?_⟩⟩⟩⟩⟩⟩⟩
  · rw [if_pos c1] at hq
    obtain ⟨d1, d2, d3, d4⟩ := okS_98 hk c1
    have g := std_pair hd (Or.inl c1)
    have b1 := digS_9 d1
    have b2 := digS_9 d2
    rw [pair_is d1 d2]
    refine r_pairOf hT d3 d4 ?_
    show vp_in (nI (10 * dg s (st + 1) + dg s (st + 2))) 24 ∧ _
    rw [z_in (by omega) (by omega)]
    refine ⟨g, ?_⟩
    show Q (xup M 7 (nI (10 * dg s (st + 1) + dg s (st + 2))).toNatClampNeg _)
    rw [z_cl (by omega)]
    refine hq _ (CV_byt (v := 1) hC g) (cOff_up (by omega)) ?_
    rw [xup_n (by omega)]; exact h11
  · rw [if_neg c1, if_pos c2] at hq
    obtain ⟨d1, d2, d3, d4⟩ := okS_101 hk c2
    have g := std_slot hd (Or.inl c2)
    have b1 := digS_9 d1
    have b4 := digS_9 d4
    rw [dig _ d1, dig _ d2]
    unfold wX1_nameAt
    refine r_signAt hT (by omega) ?_
    rw [sgS_at d3.1, show nI (s (st + 3)) - (97 : Int32) = nI (s (st + 3) - 97) from z_sub (b := 97) d3.2.1]
    refine r_digitOf hT d4 ?_
    refine r_enter (v := 1) hC (by omega) g (by omega) (by omega) (fun M1 v1 s1 => hq M1 v1 (cOff_s s1 (by omega)) ?_)
    rw [s1 0 (by omega)]; exact h11
  · rw [if_neg c1, if_neg c2, if_pos c3] at hq
    obtain ⟨d1, d2, d3, d4⟩ := okS_105 hk c3
    have b1 := digS_9 d1
    have hx := (hT.2.2 (st + 2) d2.1).1
    rw [dig _ d1]
    unfold wX1_kindAt
    refine r_signAt hT (by omega) ?_
    rw [sgS_at d2.1]
    refine s_kind hx ?_
    rw [if_pos d2.2, z_cl (by omega), z_in (by omega) (by omega)]
    refine ⟨by omega, ?_⟩
    refine r_digitOf (TX_same hT (xup_n (by omega)) (xup_n (by omega))) d3 ⟨by omega, ?_⟩
    refine r_digitOf (TX_same hT ?_ ?_) d4 ⟨by omega, ?_⟩
    · rw [xup_n (by omega), xup_n (by omega)]
    · rw [xup_n (by omega), xup_n (by omega)]
    · refine hq _ (CV_par (v := 1) (CV_link (v := 1) (CV_kind (v := 1) hC (by omega)) (by omega)) (by omega)) (cOff_tr (cOff_tr (cOff_up (by omega)) (cOff_up (by omega))) (cOff_up (by omega))) ?_
      rw [xup_n (by omega), xup_n (by omega), xup_n (by omega)]; exact h11
  · rw [if_neg c1, if_neg c2, if_neg c3, if_pos c4] at hq
    obtain ⟨d1, d2⟩ := okS_109 hk c4
    have g := std_pair hd (Or.inr c4)
    have v : M 1 6 = nI (A 144) := hC.2.2.2.2.2.2.1
    rw [pair_is d1 d2, v]
    show Q (xup M 1 6 (nI (A 144) ^^^ ((1 : Int32) <<< (nI (10 * dg s (st + 1) + dg s (st + 2)) &&& 31))))
    rw [one_shl (by omega), fb_xorI]
    refine hq _ (CV_bm (v := 1) hC) (cOff_up (by omega)) ?_
    rw [xup_n (by omega)]; exact h11
  · rw [if_neg c1, if_neg c2, if_neg c3, if_neg c4, if_pos c5] at hq
    obtain ⟨d1, d2, d3, d4⟩ := okS_112 hk c5
    have g := std_ptr hd c5
    have b1 := digS_9 d1
    have b3 := digS_9 d3
    have b4 := digS_9 d4
    rw [dig _ d1, dig _ d2]
    refine r_pairOf hT d3 d4 ?_
    have b5 : dg s (st + 3 + 1) ≤ 9 := b4
    refine r_pointAt (v := 1) hC (by omega) g (by omega) (fun M1 v1 s1 => hq M1 v1 (cOff_s s1 (by omega)) ?_)
    rw [s1 0 (by omega)]; exact h11
  · rw [if_neg c1, if_neg c2, if_neg c3, if_neg c4, if_neg c5, if_pos c6] at hq
    have d1 := okS_117 hk c6
    have b1 := digS_9 d1
    have v : M 1 7 = nI (A 145) := hC.2.2.2.2.2.2.2
    rw [dig _ d1, v, one_shl (by omega), fb_xorI]
    refine hq _ (CV_im (v := 1) hC) (cOff_up (by omega)) ?_
    rw [xup_n (by omega)]; exact h11
  · rw [if_neg c1, if_neg c2, if_neg c3, if_neg c4, if_neg c5, if_neg c6, if_pos c7] at hq
    obtain ⟨d1, d2⟩ := okS_120 hk c7
    have g := std_slot hd (Or.inr c7)
    have b1 := digS_9 d1
    rw [dig _ d1, dig _ d2, show (6 : Int32) = nI 6 from rfl, z_mul, z_add, z_cl (by omega), z_in (by omega) (by omega)]
    refine ⟨by omega, hq _ (CV_ent (v := 1) (x := 260) hC (by omega)) (cOff_up (by omega)) ?_⟩
    rw [xup_n (by omega)]; exact h11
  · rw [if_neg c1, if_neg c2, if_neg c3, if_neg c4, if_neg c5, if_neg c6, if_neg c7] at hq
    rw [h11]
    refine r_run (c := 22) (o := 1) (Or.inl rfl) xVol_at1 (by omega) (by omega) hr hO (pChk_hJ hO) hC (fun M1 k1 s1 => ?_)
    refine r_takeFrom (v := 1) (o := 23) xVol_at1 xVol_at23 (by omega) k1.1 (fun M2 v2 s2 => hq M2 v2 (cOff_tr (cOff_s s1 (by omega)) (cOff_s s2 (by omega))) ?_)
    rw [s2 0 (by omega), s1 0 (by omega)]; exact h11
end T2
