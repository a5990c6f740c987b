/-! what holds of a volume while it is checked: who is reached -/
section ST
variable {A B : Nat → Nat}
theorem aNx_k {S : Nat → Bool} {t : Nat} : aNx A S t = true ↔ ∃ k, k < 60 ∧ S (k / 6) = true ∧ aEnt A t k = true := by
  rw [aNx_iff]
  constructor
  · rintro ⟨i, hi, h1, h2⟩
    unfold aEb at h2
    obtain ⟨s, hs, h3⟩ := anyN_iff.mp h2
    exact ⟨6 * i + s, by omega, by rw [show (6 * i + s) / 6 = i by omega]; exact h1, h3⟩
  · rintro ⟨k, hk, h1, h2⟩
    refine ⟨k / 6, by omega, h1, ?_⟩
    unfold aEb
    refine anyN_iff.mpr ⟨k % 6, by omega, ?_⟩
    rw [show 6 * (k / 6) + k % 6 = k by omega]; exact h2
theorem aS_s {i n t : Nat} : aS A i (n + 1) t = (aS A i n t || aNx A (aS A i n) t) := rfl
theorem aS_grow {i n : Nat} (h : ¬ ∀ t, t < 10 → aS A i (n + 1) t = aS A i n t) : fb_ct (aS A i n) 10 < fb_ct (aS A i (n + 1)) 10 := by
  refine ct_grow (fun t _ h => by rw [aS_s, h]; rfl) ?_
  refine Classical.byContradiction fun hn => h fun t ht => ?_
  cases h1 : aS A i (n + 1) t with
  | false =>
    cases h2 : aS A i n t with
    | false => rfl
    | true => rw [aS_s, h2] at h1; cases h1
  | true =>
    cases h2 : aS A i n t with
    | true => rfl
    | false => exact absurd ⟨t, ht, h1, h2⟩ hn
theorem aS_many {i : Nat} (hi : i < 10) : ∀ n, (∃ m, m < n ∧ ∀ t, t < 10 → aS A i (m + 1) t = aS A i m t) ∨ n + 1 ≤ fb_ct (aS A i n) 10
  | 0 => Or.inr (fb_ct_pos.mpr ⟨i, hi, by show (i == i) = true; simp⟩)
  | n + 1 => by
    rcases aS_many hi n with ⟨m, h1, h2⟩ | h
    · exact Or.inl ⟨m, by omega, h2⟩
    · by_cases e : ∀ t, t < 10 → aS A i (n + 1) t = aS A i n t
      · exact Or.inl ⟨n, by omega, e⟩
      · have := aS_grow e
        exact Or.inr (by omega)
/-- nothing is new behind nine steps -/
theorem aS_9 {i : Nat} (hi : i < 10) : ∀ t, t < 10 → aS A i 10 t = aS A i 9 t := by
  rcases aS_many (A := A) hi 9 with ⟨m, h1, h2⟩ | h
  · intro t ht
    have a := aS_stop h2 (9 - m) t ht
    have b := aS_stop h2 (10 - m) t ht
    rw [show m + (9 - m) = 9 by omega] at a
    rw [show m + (10 - m) = 10 by omega] at b
    rw [a, b]
  · intro t ht
    have a := fb_ct_all.mp (by have := fb_ct_le (aS A i 9) 10; omega : fb_ct (aS A i 9) 10 = 10) t ht
    have b := aS_mono 9 a 1
    rw [a]; exact b
theorem aS_0 {i n : Nat} : aS A i n i = true := by
  have h : aS A i 0 i = true := by show (i == i) = true; simp
  have := aS_mono 0 h n
  rw [Nat.zero_add] at this; exact this
theorem aS_to {i k t : Nat} (hi : i < 10) (ht : t < 10) (hk : k < 60) (h : aS A i 10 (k / 6) = true) (he : aEnt A t k = true) : aS A i 10 t = true := by
  rw [aS_9 hi _ (by omega)] at h
  rw [aS_s, aNx_k.mpr ⟨k, hk, h, he⟩, Bool.or_true]
theorem aS_in {i : Nat} {C : Nat → Prop} (h0 : C i) (hC : ∀ k t, k < 60 → C (k / 6) → aEnt A t k = true → C t) : ∀ n t, aS A i n t = true → C t
  | 0, t, h => by
    have h : (t == i) = true := h
    rw [beq_iff_eq] at h; rw [h]; exact h0
  | n + 1, t, h => by
    rw [aS_s, Bool.or_eq_true] at h
    rcases h with h | h
    · exact aS_in h0 hC n t h
    · obtain ⟨k, h1, h2, h3⟩ := aNx_k.mp h
      exact hC k t h1 (aS_in h0 hC n _ h2) h3
theorem aEnt_lt (hO : aOK A) {t k : Nat} (hk : k < 60) (h : aEnt A t k = true) : t < 10 := by
  have b := hO.2.2.2.2.1 k hk
  unfold aEnt at h
  simp only [Bool.and_eq_true, Bool.not_eq_true', beq_eq_false_iff_ne, beq_iff_eq] at h
  omega
theorem aEnt_full {t k : Nat} (h : aEnt A t k = true) : aFull A k = true := by
  unfold aEnt at h; unfold aFull
  rw [Bool.and_eq_true] at h; exact h.1
theorem aEnt_one {t u k : Nat} (h : aEnt A t k = true) (h2 : aEnt A u k = true) : t = u := by
  unfold aEnt at h h2
  rw [Bool.and_eq_true, beq_iff_eq] at h h2
  exact h.2.symm.trans h2.2
theorem aEnt_cong {t k : Nat} (h : B (60 + k) = A (60 + k)) : aEnt B t k = aEnt A t k := by unfold aEnt; rw [h]
theorem aFull_cong {k : Nat} (h : B (60 + k) = A (60 + k)) : aFull B k = aFull A k := by unfold aFull; rw [h]
theorem aDir_cong {t : Nat} (h : B t = A t) : aDir B t = aDir A t := by unfold aDir; rw [h]
theorem aUse_cong {t : Nat} (h : B t = A t) : aUse B t = aUse A t := by unfold aUse; rw [h]
theorem aS_cong (h : ∀ k, k < 60 → B (60 + k) = A (60 + k)) {i : Nat} : ∀ n t, aS B i n t = aS A i n t
  | 0, _ => rfl
  | n + 1, t => by
    have e : aS B i n = aS A i n := funext fun t => aS_cong h n t
    rw [aS_s, aS_s, e]
    have e2 : aNx B (aS A i n) t = aNx A (aS A i n) t := by
      rw [Bool.eq_iff_iff, aNx_k, aNx_k]
      constructor
      · rintro ⟨k, h1, h2, h3⟩; exact ⟨k, h1, h2, by rw [← aEnt_cong (h k h1)]; exact h3⟩
      · rintro ⟨k, h1, h2, h3⟩; exact ⟨k, h1, h2, by rw [aEnt_cong (h k h1)]; exact h3⟩
    rw [e2]
/-- inode 0 is a directory, only directories have entries -/
def aJ (A : Nat → Nat) : Prop := aOK A ∧ aDir A 0 = true ∧ aJ1 A
/-- every directory is reached -/
def aAP (A : Nat → Nat) : Prop := ∀ t, t < 10 → aDir A t = true → aS A 0 10 t = true
theorem aDir_use {t : Nat} (h : aDir A t = true) : aUse A t = true := by
  unfold aDir at h; unfold aUse
  simp only [Bool.or_eq_true, beq_iff_eq] at h
  simp only [Bool.not_eq_true', beq_eq_false_iff_ne]; omega
theorem aDir_0 {i t : Nat} (h : A t = 0) : aDir A t = false := by unfold aDir; rw [h]; rfl
theorem aLists_dir {k : Nat} (hk : A k < 6) (h : 0 < aLists (A k)) : aDir A k = true := by
  have key : ∀ x, x < 6 → 0 < aLists x → (x == 2 || x == 5) = true := by decide
  exact key _ hk h
/-- who is reached has an entry -/
theorem aS_ent (hO : aOK A) {t n : Nat} (h : aS A 0 n t = true) (h0 : t ≠ 0) : ∃ k, k < 60 ∧ aEnt A t k = true := by
  have := aS_in (A := A) (i := 0) (C := fun t => t = 0 ∨ ∃ k, k < 60 ∧ aEnt A t k = true) (Or.inl rfl) (fun k t hk _ he => Or.inr ⟨k, hk, he⟩) n t h
  exact this.elim (fun q => absurd q h0) id
-- volumes that differ outside kinds and slots alone
def aE (A B : Nat → Nat) : Prop := (∀ i, i < 10 → B i = A i) ∧ ∀ k, k < 60 → B (60 + k) = A (60 + k)
theorem aE_J1 (h : aE A B) (hJ : aJ1 A) : aJ1 B := fun k hk hf => by
  rw [aDir_cong (h.1 _ (by omega))]
  rw [aFull_cong (h.2 k hk)] at hf
  exact hJ k hk hf
theorem aE_J (h : aE A B) (hO : aOK B) (hJ : aJ A) : aJ B := ⟨hO, by rw [aDir_cong (h.1 0 (by omega))]; exact hJ.2.1, aE_J1 h hJ.2.2⟩
theorem aE_AP (h : aE A B) (hJ : aAP A) : aAP B := fun t ht hd => by
  rw [aDir_cong (h.1 _ (by omega))] at hd
  rw [aS_cong h.2]; exact hJ t ht hd
theorem aE_up {q x : Nat} (h : ¬ (q < 10 ∨ 60 ≤ q ∧ q < 120)) : aE A (aUp A q x) := ⟨fun i hi => by unfold aUp; rw [if_neg (by omega)], fun k hk => by unfold aUp; rw [if_neg (by omega)]⟩
theorem aE_rf : aE A A := ⟨fun _ _ => rfl, fun _ _ => rfl⟩
theorem aE_tr {C : Nat → Nat} (h : aE A B) (h2 : aE B C) : aE A C := ⟨fun i hi => (h2.1 i hi).trans (h.1 i hi), fun k hk => (h2.2 k hk).trans (h.2 k hk)⟩
theorem aE_ite {c : Prop} [Decidable c] {B C : Nat → Nat} (h1 : c → aE A B) (h2 : ¬ c → aE A C) : aE A (if c then B else C) := by
  split
  · exact h1 ‹_›
  · exact h2 ‹_›
end ST
section SU
variable {rf : Nat → Bool} {T : aT}
theorem pRoot_ok {A : Nat → Nat} (hO : aOK A) : aOK (pRoot A).1 := by
  unfold pRoot
  split
  · exact hO
  · exact aOK_wipe hO (by omega) (by omega)
theorem pRoot_dir {A : Nat → Nat} : aDir (pRoot A).1 0 = true := by
  unfold pRoot
  split
  · assumption
  · rfl
theorem pPtr_ok {k : Nat} (hO : aOK T.1) (hk : k < 30) : aOK (pPtr rf T k).1 := by
  unfold pPtr
  split
  · exact hO
  · split
    · exact aOK_ptr hO hk (by omega)
    · split
      · exact aOK_ptr hO hk (by omega)
      · split
        · dsimp only
          split
          · rename_i h
            exact aOK_ptr (aOK_byt hO h.2 (hO.2.2.2.2.2.1 _ (by omega))) hk (by omega)
          · exact aOK_ptr hO hk (by omega)
        · exact hO
theorem pPtr_E {k : Nat} (hk : k < 30) : aE T.1 (pPtr rf T k).1 := by
  unfold pPtr
  split
  · exact aE_rf
  · split
    · exact aE_up (by omega)
    · split
      · exact aE_up (by omega)
      · split
        · dsimp only
          split
          · exact aE_tr (aE_up (by omega)) (aE_up (by omega))
          · exact aE_up (by omega)
        · exact aE_rf
theorem pEnt_ok {k : Nat} (hO : aOK T.1) (hk : k < 60) : aOK (pEnt T k).1 := by
  unfold pEnt
  split
  · exact hO
  · split
    · exact hO
    · exact aOK_ent hO hk (by omega)
theorem pIter_P {P : aT → Prop} {f : aT → Nat → aT} {N : Nat} (h : ∀ T k, k < N → P T → P (f T k)) : ∀ n, n ≤ N → P T → P (pIter f T n)
  | 0, _, h0 => h0
  | n + 1, hn, h0 => h _ n (by omega) (pIter_P h n (by omega) h0)
theorem pChk1_J {A : Nat → Nat} (hO : aOK A) : aOK (pChk1 rf A).1 ∧ aDir (pChk1 rf A).1 0 = true := by
  unfold pChk1
  refine pIter_P (P := fun T => aOK T.1 ∧ aDir T.1 0 = true) (N := 30) (fun T k hk h => ⟨pPtr_ok h.1 hk, ?_⟩) 30 (by omega) ⟨pRoot_ok hO, pRoot_dir⟩
  rw [aDir_cong ((pPtr_E hk).1 0 (by omega))]; exact h.2
theorem pChk2_J {A : Nat → Nat} (hO : aOK A) : aJ (pChk2 rf A).1 := by
  unfold pChk2
  have h1 := pChk1_J (rf := rf) hO
  generalize pChk1 rf A = R at h1
  have key : ∀ n, n ≤ 60 → aOK (pIter pEnt R n).1 ∧ aDir (pIter pEnt R n).1 0 = true ∧ ∀ k, k < n → aFull (pIter pEnt R n).1 k = true → aDir (pIter pEnt R n).1 (k / 6) = true := by
    intro n
    induction n with
    | zero => intro _; exact ⟨h1.1, h1.2, fun k hk => absurd hk (Nat.not_lt_zero k)⟩
    | succ n ih =>
      intro hn
      obtain ⟨i1, i2, i3⟩ := ih (by omega)
      show aOK (pEnt (pIter pEnt R n) n).1 ∧ aDir (pEnt (pIter pEnt R n) n).1 0 = true ∧ ∀ k, k < n + 1 → aFull (pEnt (pIter pEnt R n) n).1 k = true → aDir (pEnt (pIter pEnt R n) n).1 (k / 6) = true
      generalize pIter pEnt R n = T at i1 i2 i3
      refine ⟨pEnt_ok i1 (by omega), by rw [aDir_cong (pEnt_old T (by omega))]; exact i2, fun k hk hf => ?_⟩
      rw [aDir_cong (pEnt_old T (q := k / 6) (by omega))]
      rcases Nat.lt_or_ge k n with z | z
      · rw [aFull_cong (pEnt_old T (by omega))] at hf
        exact i3 k z hf
      · have e : k = n := by omega
        subst e
        unfold pEnt at hf
        split at hf
        · rename_i h; unfold aFull at hf; rw [h] at hf; exact absurd hf (by decide)
        · split at hf
          · rename_i h
            refine aLists_dir (i1.1 _ (by omega)) ?_
            unfold pFault at h
            split at h
            · cases h
            · omega
          · unfold aFull aUp at hf; simp at hf
  have := key 60 (by omega)
  exact ⟨this.1, this.2.1, fun k hk => this.2.2 k hk⟩
end SU
