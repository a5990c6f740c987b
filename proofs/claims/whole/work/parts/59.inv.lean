/-! class and reference side by side: what holds between calls -/
def SVf (f : Nat → Int32) (A : Nat → Nat) : Prop := (∀ i, i < 10 → f i = nI (A i)) ∧ (∀ i, i < 10 → f (10 + i) = nI (A (10 + i))) ∧ (∀ i, i < 10 → f (20 + i) = nI (A (20 + i))) ∧ (∀ k, k < 30 → f (30 + k) = nI (A (30 + k))) ∧ (∀ k, k < 60 → f (60 + k) = eM (A (60 + k))) ∧ (∀ b, b < 24 → f (120 + b) = nI (A (120 + b))) ∧ f 144 = nI (A 144) ∧ f 145 = nI (A 145)
theorem SVf_same {f g : Nat → Int32} {A : Nat → Nat} (h : SVf f A) (e : ∀ k, k < 146 → g k = f k) : SVf g A := by
  obtain ⟨h1, h2, h3, h4, h5, h6, h7, h8⟩ := h
  refine ⟨fun i hi => ?_, fun i hi => ?_, fun i hi => ?_, fun i hi => ?_, fun i hi => ?_, fun i hi => ?_, ?_, ?_⟩
  · rw [e _ (by omega)]; exact h1 i hi
  · rw [e _ (by omega)]; exact h2 i hi
  · rw [e _ (by omega)]; exact h3 i hi
  · rw [e _ (by omega)]; exact h4 i hi
  · rw [e _ (by omega)]; exact h5 i hi
  · rw [e _ (by omega)]; exact h6 i hi
  · rw [e _ (by omega)]; exact h7
  · rw [e _ (by omega)]; exact h8
def IRt (M : xM) : Prop := (M 0 3 = 0 ∧ M 50 4 = 0) ∨ (M 0 3 = 1 ∧ M 50 4 = 1 ∧ ∃ B rg, CV M 15 B ∧ aOK B ∧ rfOK rg ∧ M 0 4 = bs rg 17 ∧ SVf (M 52) B ∧ M 52 146 = bs rg 17)
def IRr (M : xM) : Prop := ∃ nr, nr ≤ 32 ∧ M 0 9 = nI nr ∧ M 50 16 = nI nr ∧ ∀ j, j < nr → ∃ x, x ≤ 99 ∧ M 48 j = nI x ∧ M 59 j = nI x
def IRl (M : xM) : Prop := ∃ nl, nl ≤ 96 ∧ M 46 1 = nI nl ∧ M 50 7 = nI nl ∧ ∀ j, j < nl → ∃ x, x ≤ 255 ∧ M 47 j = nI x ∧ M 55 j = nI x
def IRc (M : xM) : Prop := ∀ j, 1 ≤ j → j ≤ 6 → M 49 j = M 54 (10 + j)
def IR (M : xM) : Prop := IRt M ∧ IRr M ∧ IRl M ∧ IRc M
def IV (M : xM) (A : Nat → Nat) (rf : Nat → Bool) : Prop := CV M 1 A ∧ aOK A ∧ rfOK rf ∧ M 0 11 = bs rf 17 ∧ SV M A ∧ M 51 146 = bs rf 17
def Inv (M : xM) : Prop := IR M ∧ ∃ A rf, IV M A rf
def eqR (M M' : xM) : Prop := (∀ p, (15 ≤ p ∧ p ≤ 21) ∨ (46 ≤ p ∧ p ≤ 49) ∨ p = 52 ∨ p = 54 ∨ p = 55 ∨ p = 59 → M' p = M p) ∧ M' 0 3 = M 0 3 ∧ M' 0 4 = M 0 4 ∧ M' 0 9 = M 0 9 ∧ M' 50 4 = M 50 4 ∧ M' 50 7 = M 50 7 ∧ M' 50 16 = M 50 16
/-- what the class may write without touching the rest; likewise the reference -/
def cOff (M M' : xM) : Prop := (∀ p, p ≠ 0 → ¬ (1 ≤ p ∧ p ≤ 14) → ¬ (22 ≤ p ∧ p ≤ 45) → M' p = M p) ∧ ∀ k, k ≠ 11 → k ≠ 12 → M' 0 k = M 0 k
def dOff (M M' : xM) : Prop := (∀ p, p ≠ 50 → p ≠ 51 → p ≠ 53 → p ≠ 56 → p ≠ 57 → p ≠ 58 → M' p = M p) ∧ ∀ j, j ≠ 8 → j ≠ 9 → j ≠ 10 → j ≠ 14 → j ≠ 17 → M' 50 j = M 50 j
section IN
variable {M M1 M2 : xM} {A : Nat → Nat} {rf : Nat → Bool}
theorem cOff_rf : cOff M M := ⟨fun _ _ _ _ => rfl, fun _ _ _ => rfl⟩
theorem dOff_rf : dOff M M := ⟨fun _ _ _ _ _ _ _ => rfl, fun _ _ _ _ _ _ => rfl⟩
theorem cOff_tr (h : cOff M M1) (h2 : cOff M1 M2) : cOff M M2 := ⟨fun p a b c => (h2.1 p a b c).trans (h.1 p a b c), fun k a b => (h2.2 k a b).trans (h.2 k a b)⟩
theorem dOff_tr (h : dOff M M1) (h2 : dOff M1 M2) : dOff M M2 := ⟨fun p a b c d e f => (h2.1 p a b c d e f).trans (h.1 p a b c d e f), fun j a b c d e => (h2.2 j a b c d e).trans (h.2 j a b c d e)⟩
theorem cOff_up {p k : Nat} {x : Int32} (h : (1 ≤ p ∧ p ≤ 14) ∨ (22 ≤ p ∧ p ≤ 45)) : cOff M (xup M p k x) := ⟨fun q _ b c => xup_n (by omega), fun k _ _ => by rw [xup_n (by omega)]⟩
theorem cOff_0 {k : Nat} {x : Int32} (h : k = 11 ∨ k = 12) : cOff M (xup M 0 k x) := ⟨fun q a _ _ => xup_n a, fun j a b => by rw [xup_at, upd, if_neg (by omega)]⟩
theorem cOff_s {lo hi : Nat} (h : sOff lo hi M M1) (hl : (1 ≤ lo ∧ hi ≤ 14) ∨ (22 ≤ lo ∧ hi ≤ 45)) : cOff M M1 := ⟨fun p a b c => h p (by omega), fun k _ _ => by rw [h 0 (by omega)]⟩
theorem dOff_s {k : Nat} {x : Int32} : dOff M (xup M 51 k x) := ⟨fun p _ b _ _ _ _ => xup_n b, fun j _ _ _ _ _ => by rw [xup_n (by omega)]⟩
theorem dOff_r (h : rOff M M1) : dOff M M1 := ⟨fun p a b _ c d e => h.1 p a b c d e, fun j _ _ _ e _ => h.2.1 j e⟩
theorem dOff_51 (h : ∀ p, p ≠ 51 → M1 p = M p) : dOff M M1 := ⟨fun p _ b _ _ _ _ => h p b, fun j _ _ _ _ _ => by rw [h 50 (by omega)]⟩
theorem dOff_53 (h : ∀ p, p ≠ 53 → M1 p = M p) : dOff M M1 := ⟨fun p _ _ b _ _ _ => h p b, fun j _ _ _ _ _ => by rw [h 50 (by omega)]⟩
theorem eqR_cd (h : cOff M M1) (h2 : dOff M1 M2) : eqR M M2 := by
  have e : ∀ p, (15 ≤ p ∧ p ≤ 21) ∨ (46 ≤ p ∧ p ≤ 49) ∨ p = 52 ∨ p = 54 ∨ p = 55 ∨ p = 59 → M2 p = M p := fun p hp => by
    rw [h2.1 p (by omega) (by omega) (by omega) (by omega) (by omega) (by omega), h.1 p (by omega) (by omega) (by omega)]
  have z0 : ∀ k, k ≠ 11 → k ≠ 12 → M2 0 k = M 0 k := fun k a b => by rw [h2.1 0 (by omega) (by omega) (by omega) (by omega) (by omega) (by omega)]; exact h.2 k a b
  have z5 : ∀ j, j ≠ 8 → j ≠ 9 → j ≠ 10 → j ≠ 14 → j ≠ 17 → M2 50 j = M 50 j := fun j a b c d e => by rw [h2.2 j a b c d e, h.1 50 (by omega) (by omega) (by omega)]
  exact ⟨e, z0 3 (by omega) (by omega), z0 4 (by omega) (by omega), z0 9 (by omega) (by omega), z5 4 (by omega) (by omega) (by omega) (by omega) (by omega), z5 7 (by omega) (by omega) (by omega) (by omega) (by omega), z5 16 (by omega) (by omega) (by omega) (by omega) (by omega)⟩
theorem IRt_eq {M' : xM} (h : IRt M) (hp : ∀ p, (15 ≤ p ∧ p ≤ 21) ∨ p = 52 → M' p = M p) (e3 : M' 0 3 = M 0 3) (e4 : M' 0 4 = M 0 4) (e5 : M' 50 4 = M 50 4) : IRt M' := by
  rcases h with ⟨a, b⟩ | ⟨a, b, B, rg, c1, c2, c3, c4, c5, c6⟩
  · exact Or.inl ⟨e3.trans a, e5.trans b⟩
  · refine Or.inr ⟨e3.trans a, e5.trans b, B, rg, CV_same c1 fun d hd => hp _ (by omega), c2, c3, e4.trans c4, ?_, ?_⟩
    · rw [hp 52 (by omega)]; exact c5
    · rw [hp 52 (by omega)]; exact c6
theorem IRr_eq {M' : xM} (h : IRr M) (e1 : M' 0 9 = M 0 9) (e2 : M' 50 16 = M 50 16) (e3 : M' 48 = M 48) (e4 : M' 59 = M 59) : IRr M' := by
  obtain ⟨n, a, b, c, d⟩ := h
  exact ⟨n, a, e1.trans b, e2.trans c, by rw [e3, e4]; exact d⟩
theorem IRl_eq {M' : xM} (h : IRl M) (e1 : M' 46 1 = M 46 1) (e2 : M' 50 7 = M 50 7) (e3 : M' 47 = M 47) (e4 : M' 55 = M 55) : IRl M' := by
  obtain ⟨n, a, b, c, d⟩ := h
  exact ⟨n, a, e1.trans b, e2.trans c, by rw [e3, e4]; exact d⟩
theorem IRc_eq {M' : xM} (h : IRc M) (e1 : M' 49 = M 49) (e2 : M' 54 = M 54) : IRc M' := by
  unfold IRc; rw [e1, e2]; exact h
theorem IR_eq {M' : xM} (h : IR M) (e : eqR M M') : IR M' := by
  obtain ⟨h1, h2, h3, h4⟩ := h
  obtain ⟨e0, e1, e2, e3, e4, e5, e6⟩ := e
  exact ⟨IRt_eq h1 (fun p hp => e0 p (by omega)) e1 e2 e4, IRr_eq h2 e3 e6 (e0 48 (by omega)) (e0 59 (by omega)), IRl_eq h3 (by rw [e0 46 (by omega)]) e5 (e0 47 (by omega)) (e0 55 (by omega)), IRc_eq h4 (e0 49 (by omega)) (e0 54 (by omega))⟩
/-- a call's end -/
theorem inv_fin {B : Nat → Nat} {rg : Nat → Bool} (h : IR M) (c : cOff M M1) (d : dOff M1 M2) (cv : CV M1 1 B) (hO : aOK B) (hr : rfOK rg) (c1 : M1 0 11 = bs rg 17) (sv : SV M2 B) (s6 : M2 51 146 = bs rg 17) : Inv M2 := by
  have e : ∀ p, p ≤ 49 → M2 p = M1 p := fun p hp => d.1 p (by omega) (by omega) (by omega) (by omega) (by omega) (by omega)
  exact ⟨IR_eq h (eqR_cd c d), B, rg, CV_same cv fun t ht => e _ (by omega), hO, hr, by rw [e 0 (by omega)]; exact c1, sv, s6⟩
theorem cOff_51 (c : cOff M M1) : ∀ p, 46 ≤ p → M1 p = M p := fun p hp => c.1 p (by omega) (by omega) (by omega)
theorem k_outA {x : Int32} {N : Nat} {P R : xM → Prop} (hN : N < 2147483648) (h1 : vp_in x N → P M) (h0 : ¬ vp_in x N → R M) : wX3_isOutside M x (nI N) (fun r M' => (r = 0 → P M') ∧ (¬ r = 0 → R M')) := by
  by_cases h : vp_in x N
  · exact r_inside hN h ⟨fun _ => h1 h, fun z => absurd rfl z⟩
  · exact r_outside hN h ⟨fun z => absurd z (by decide), fun _ => h0 h⟩
theorem k_outB {x : Int32} {N : Nat} {P R : xM → Prop} (hN : N < 2147483648) (h1 : vp_in x N → P M) (h0 : ¬ vp_in x N → R M) : wX3_isOutside M x (nI N) (fun r M' => (¬ r = 0 → R M') ∧ (r = 0 → P M')) := by
  by_cases h : vp_in x N
  · exact r_inside hN h ⟨fun z => absurd rfl z, fun _ => h1 h⟩
  · exact r_outside hN h ⟨fun _ => h0 h, fun z => absurd z (by decide)⟩
theorem t_inA {x : Int32} {n : Nat} {P R : xM → Prop} (hN : n < 2147483647) (h1 : vp_in x (n + 1) → P M) (h0 : ¬ vp_in x (n + 1) → R M) : wX4_in M x 0 (nI n) (fun r M' => (¬ r = 0 → P M') ∧ (r = 0 → R M')) :=
  t_in hN (fun h => ⟨fun _ => h1 h, fun z => absurd z (by decide)⟩) (fun h => ⟨fun z => absurd rfl z, fun _ => h0 h⟩)
theorem t_inB {x : Int32} {n : Nat} {P R : xM → Prop} (hN : n < 2147483647) (h1 : vp_in x (n + 1) → P M) (h0 : ¬ vp_in x (n + 1) → R M) : wX4_in M x 0 (nI n) (fun r M' => (r = 0 → R M') ∧ (¬ r = 0 → P M')) :=
  t_in hN (fun h => ⟨fun z => absurd z (by decide), fun _ => h1 h⟩) (fun h => ⟨fun _ => h0 h, fun z => absurd rfl z⟩)
theorem t_isInodeA {x : Int32} {P R : xM → Prop} (h1 : vp_in x 10 → P M) (h0 : ¬ vp_in x 10 → R M) : wX4_isInode M x (fun r M' => (¬ r = 0 → P M') ∧ (r = 0 → R M')) :=
  t_isInode (fun h => ⟨fun _ => h1 h, fun z => absurd z (by decide)⟩) (fun h => ⟨fun z => absurd rfl z, fun _ => h0 h⟩)
theorem t_isInodeB {x : Int32} {P R : xM → Prop} (h1 : vp_in x 10 → P M) (h0 : ¬ vp_in x 10 → R M) : wX4_isInode M x (fun r M' => (r = 0 → R M') ∧ (¬ r = 0 → P M')) :=
  t_isInode (fun h => ⟨fun z => absurd z (by decide), fun _ => h1 h⟩) (fun h => ⟨fun _ => h0 h, fun z => absurd rfl z⟩)
theorem t_isBlockA {x : Int32} {P R : xM → Prop} (h1 : vp_in x 24 → P M) (h0 : ¬ vp_in x 24 → R M) : wX4_isBlock M x (fun r M' => (¬ r = 0 → P M') ∧ (r = 0 → R M')) :=
  t_isBlock (fun h => ⟨fun _ => h1 h, fun z => absurd z (by decide)⟩) (fun h => ⟨fun z => absurd rfl z, fun _ => h0 h⟩)
-- refusals
def refd (M : xM) (n : Nat) : xM := xup M 49 n (M 49 n + 1)
theorem k_ref {n : Nat} {Q : Int32 → xM → Prop} (hn : n = 1 ∨ n = 2 ∨ n = 3 ∨ n = 4 ∨ n = 6) (hq : Q (-nI n) (refd M n)) : wX3_refusal M (-nI n) Q := by
  have e : -(-nI n) = nI n := Int32.neg_neg
  unfold wX3_refusal wX3_refusal_24
  rw [e]
  simp (disch := omega) only [zl 1, zl 6, z_lt, z_in, z_cl]
  refine ⟨fun z => absurd z (by omega), fun _ => ⟨fun z => absurd z (by omega), fun _ => ⟨by omega, ?_⟩⟩⟩
  exact hq
theorem t_ref {n : Nat} {Q : Int32 → xM → Prop} (hn : n = 1 ∨ n = 2 ∨ n = 3 ∨ n = 4 ∨ n = 6) (hq : Q (-nI n) (xup M 54 (10 + n) (M 54 (10 + n) + 1))) : wX4_refused M (-nI n) Q := by
  have e : (10 : Int32) - (-nI n) = nI (10 + n) := by rcases hn with rfl | rfl | rfl | rfl | rfl <;> decide
  unfold wX4_refused
  rw [e, z_cl (by omega)]
  exact ⟨(z_in (by omega) (by omega)).mpr (by omega), hq⟩
theorem t_refL {n : Nat} {Q : Int64 → xM → Prop} (hn : n = 1 ∨ n = 2 ∨ n = 3 ∨ n = 4 ∨ n = 6) (hq : Q ((4000000000000000000 : Int64) - (-nI n).toInt64) (xup M 54 (10 + n) (M 54 (10 + n) + 1))) : wX4_refusedLong M (-nI n) Q := by
  have e : (10 : Int32) - (-nI n) = nI (10 + n) := by rcases hn with rfl | rfl | rfl | rfl | rfl <;> decide
  unfold wX4_refusedLong
  rw [e, z_cl (by omega)]
  exact ⟨(z_in (by omega) (by omega)).mpr (by omega), hq⟩
theorem inv_ref {n : Nat} (h : Inv M) : Inv (xup (refd M n) 54 (10 + n) (refd M n 54 (10 + n) + 1)) := by
  obtain ⟨⟨h1, h2, h3, h4⟩, A, rf, v1, v2, v3, v4, v5, v6⟩ := h
  have e : ∀ p, p ≠ 49 → p ≠ 54 → xup (refd M n) 54 (10 + n) (refd M n 54 (10 + n) + 1) p = M p := fun p a b => by rw [xup_n b]; exact xup_n a
  refine ⟨⟨IRt_eq h1 (fun p hp => e p (by omega) (by omega)) ?_ ?_ ?_, IRr_eq h2 ?_ ?_ (e 48 (by omega) (by omega)) (e 59 (by omega) (by omega)), IRl_eq h3 ?_ ?_ (e 47 (by omega) (by omega)) (e 55 (by omega) (by omega)), fun j a b => ?_⟩, A, rf, CV_same v1 fun d hd => e _ (by omega) (by omega), v2, v3, ?_, SV_same v5 (e 51 (by omega) (by omega)), ?_⟩
  · rw [e 0 (by omega) (by omega)]
  · rw [e 0 (by omega) (by omega)]
  · rw [e 50 (by omega) (by omega)]
  · rw [e 0 (by omega) (by omega)]
  · rw [e 50 (by omega) (by omega)]
  · rw [e 46 (by omega) (by omega)]
  · rw [e 50 (by omega) (by omega)]
  · have a1 : xup (refd M n) 54 (10 + n) (refd M n 54 (10 + n) + 1) 49 = upd (M 49) n (M 49 n + 1) := by rw [xup_n (by omega)]; exact xup_at _ _ _ _
    have a2 : refd M n 54 = M 54 := xup_n (by omega)
    rw [a1, xup_at, a2]
    unfold upd
    by_cases q : j = n
    · subst q
      rw [if_pos rfl, if_pos rfl, h4 j a b]
    · rw [if_neg q, if_neg (by omega)]; exact h4 j a b
  · rw [e 0 (by omega) (by omega)]; exact v4
  · rw [e 51 (by omega) (by omega)]; exact v6
theorem fin_ref {n : Nat} (hn : n = 1 ∨ n = 2 ∨ n = 3 ∨ n = 4 ∨ n = 6) (h : Inv M) : wX4_refused (refd M n) (-nI n) (fun r2 M2 => -nI n = r2 ∧ Inv M2) := t_ref hn ⟨rfl, inv_ref h⟩
-- the reference's reading and writing
theorem t_pointerOf {i k : Nat} {Q : Int32 → xM → Prop} (hS : SV M A) (hO : aOK A) (hi : i < 10) (hk : k < 3) (hq : Q (tC (A (30 + (3 * i + k)))) M) : wX4_pointerOf M (nI i) (nI k) Q := by
  have v := hS.2.2.2.1 (3 * i + k) (by omega)
  have b := hO.2.2.2.1 (3 * i + k) (by omega)
  have g : 30 + (3 * i + k) < 147 := by omega
  unfold wX4_pointerOf wX4_pointerOf_26
  simp (disch := omega) only [zl 30, zl 3, zl 99, zl 147, z_mul, z_add, Nat.add_assoc, z_in, z_cl, v, g, true_and, z_eq]
  unfold tC at hq
  refine ⟨fun z => ?_, fun z => ?_⟩
  · rw [if_neg z] at hq; exact hq
  · rw [if_pos z] at hq; exact hq
theorem t_slotOf {i k : Nat} {Q : Int32 → xM → Prop} (hS : SV M A) (hO : aOK A) (hi : i < 10) (hk : k < 6) (hq : Q (eC (A (60 + (6 * i + k)))) M) : wX4_slotOf M (nI i) (nI k) Q := by
  have v := hS.2.2.2.2.1 (6 * i + k) (by omega)
  have b := hO.2.2.2.2.1 (6 * i + k) (by omega)
  have g : 60 + (6 * i + k) < 147 := by omega
  unfold wX4_slotOf wX4_slotOf_26
  simp (disch := omega) only [zl 60, zl 6, zl 1, zl 147, z_mul, z_add, Nat.add_assoc, z_in, z_cl, v, g, true_and, eM_n1]
  unfold eC at hq
  unfold eM
  refine ⟨fun z => ?_, fun z => ?_⟩
  · rw [if_neg z] at hq ⊢; exact hq
  · rw [if_pos z] at hq; exact hq
theorem t_becomes {q : Nat} {x : Int32} {Q : Int32 → xM → Prop} (hg : q < 147) (hq : Q (M 51 q) (xup M 51 q x)) : wX4_becomes M (nI q) x Q := by
  unfold wX4_becomes
  rw [z_cl (by omega)]
  exact ⟨(z_in (by omega) (by omega)).mpr hg, hq⟩
theorem t_keeps {Q : xM → Prop} (hq : ∀ M', (∀ k, k < 147 → M' 53 k = M 51 k) → (∀ p, p ≠ 53 → M' p = M p) → Q M') : wX4_keeps M Q := by
  unfold wX4_keeps
  have key := z_loop (P := fun n j => ∀ M', (∀ k, k < j → M' 53 k = M 51 k) → (∀ p, p ≠ 53 → M' p = M p) → lX4_keeps_2 Q n M' (nI j)) 147 (fun n M' h1 h2 => ?_) (fun n j hj hn M' h1 h2 => ?_)
  · obtain ⟨n, hn⟩ := key
    exact ⟨n, hn M (fun k hk => absurd hk (Nat.not_lt_zero k)) (fun _ _ => rfl)⟩
  · unfold lX4_keeps_2
    simp (disch := omega) only [zl 147, z_le, Nat.le_refl, true_implies, not_true, false_implies, and_true]
    exact hq M' h1 h2
  · unfold lX4_keeps_2
    dsimp only
    simp (disch := omega) only [zl 147, z_le, z_in, z_cl, hj, true_and, nI_1]
    refine ⟨fun z => absurd z (by omega), fun _ => hn _ (fun k hk => ?_) (fun p hp => (xup_n hp).trans (h2 p hp))⟩
    rw [xup_at, upd]
    by_cases e : k = j
    · rw [if_pos e, h2 51 (by omega), e]
    · rw [if_neg e]; exact h1 k (by omega)
theorem t_goesBack {Q : xM → Prop} (hq : ∀ M', (∀ k, k < 147 → M' 51 k = M 53 k) → (∀ p, p ≠ 51 → M' p = M p) → Q M') : wX4_goesBack M Q := by
  unfold wX4_goesBack
  have key := z_loop (P := fun n j => ∀ M', (∀ k, k < j → M' 51 k = M 53 k) → (∀ p, p ≠ 51 → M' p = M p) → lX4_goesBack_2 Q n M' (nI j)) 147 (fun n M' h1 h2 => ?_) (fun n j hj hn M' h1 h2 => ?_)
  · obtain ⟨n, hn⟩ := key
    exact ⟨n, hn M (fun k hk => absurd hk (Nat.not_lt_zero k)) (fun _ _ => rfl)⟩
  · unfold lX4_goesBack_2
    simp (disch := omega) only [zl 147, z_le, Nat.le_refl, true_implies, not_true, false_implies, and_true]
    exact hq M' h1 h2
  · unfold lX4_goesBack_2
    dsimp only
    simp (disch := omega) only [zl 147, z_le, z_in, z_cl, hj, true_and, nI_1]
    refine ⟨fun z => absurd z (by omega), fun _ => hn _ (fun k hk => ?_) (fun p hp => (xup_n hp).trans (h2 p hp))⟩
    rw [xup_at, upd]
    by_cases e : k = j
    · rw [if_pos e, h2 53 (by omega), e]
    · rw [if_neg e]; exact h1 k (by omega)
end IN
