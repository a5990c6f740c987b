/-! the reference: its row over the same numbers; its small methods -/
theorem ff_is {p : Nat → Bool} {n j : Nat} (hb : ∀ k, k < j → p k = false) (hy : p j = true) (hj : j < n) : fa_first p n = j := by
  rcases Nat.lt_trichotomy (fa_first p n) j with q | q | q
  · have h3 := fa_first_yes p n (by omega)
    rw [hb _ q] at h3; cases h3
  · exact q
  · have h3 := fa_first_no p n j q
    rw [hy] at h3; cases h3
theorem ff_none {p : Nat → Bool} {n : Nat} (hb : ∀ k, k < n → p k = false) : ¬ fa_first p n < n := fun z => by
  have h1 := fa_first_yes p n z
  rw [hb _ z] at h1; cases h1
theorem lt_snoc {p : Nat → Bool} {j : Nat} (hb : ∀ k, k < j → p k = false) (hz : p j = false) : ∀ k, k < j + 1 → p k = false := fun k hk => by
  rcases Nat.lt_or_ge k j with q | q
  · exact hb k q
  · rw [show k = j by omega]; exact hz
theorem ct_0 {p : Nat → Bool} {n : Nat} : fb_ct p n = 0 ↔ anyN p n = false := by rw [fb_ct_zero, anyN_not]
def SV (M : xM) (A : Nat → Nat) : Prop := (∀ i, i < 10 → M 51 i = nI (A i)) ∧ (∀ i, i < 10 → M 51 (10 + i) = nI (A (10 + i))) ∧ (∀ i, i < 10 → M 51 (20 + i) = nI (A (20 + i))) ∧ (∀ k, k < 30 → M 51 (30 + k) = nI (A (30 + k))) ∧ (∀ k, k < 60 → M 51 (60 + k) = eM (A (60 + k))) ∧ (∀ b, b < 24 → M 51 (120 + b) = nI (A (120 + b))) ∧ M 51 144 = nI (A 144) ∧ M 51 145 = nI (A 145)
def rOff (M M' : xM) : Prop := (∀ p, p ≠ 50 → p ≠ 51 → p ≠ 56 → p ≠ 57 → p ≠ 58 → M' p = M p) ∧ (∀ j, j ≠ 14 → M' 50 j = M 50 j) ∧ M' 51 146 = M 51 146
theorem rOff_rf {M : xM} : rOff M M := ⟨fun _ _ _ _ _ _ => rfl, fun _ _ => rfl, rfl⟩
theorem rOff_tr {M M' M'' : xM} (h : rOff M M') (h2 : rOff M' M'') : rOff M M'' := ⟨fun p a b c d e => (h2.1 p a b c d e).trans (h.1 p a b c d e), fun j a => (h2.2.1 j a).trans (h.2.1 j a), h2.2.2.trans h.2.2⟩
theorem rOff_s {M : xM} {q : Nat} {x : Int32} (hq : q ≠ 146) : rOff M (xup M 51 q x) := ⟨fun p _ a _ _ _ => xup_ne M q x a, fun j _ => by rw [xup_ne M q x (by omega)], by rw [xup_at, upd, if_neg (Ne.symm hq)]⟩
section RS
variable {M : xM} {A : Nat → Nat} {Q : Int32 → xM → Prop}
theorem SV_cong {B : Nat → Nat} (h : SV M A) (e : ∀ q, q < 146 → A q = B q) : SV M B := by
  obtain ⟨h1, h2, h3, h4, h5, h6, h7, h8⟩ := h
  refine ⟨fun i hi => ?_, fun i hi => ?_, fun i hi => ?_, fun i hi => ?_, fun i hi => ?_, fun i hi => ?_, ?_, ?_⟩
  · rw [h1 i hi, e _ (by omega)]
  · rw [h2 i hi, e _ (by omega)]
  · rw [h3 i hi, e _ (by omega)]
  · rw [h4 i hi, e _ (by omega)]
  · rw [h5 i hi, e _ (by omega)]
  · rw [h6 i hi, e _ (by omega)]
  · rw [h7, e _ (by omega)]
  · rw [h8, e _ (by omega)]
theorem SV_same {M' : xM} (h : SV M A) (e : M' 51 = M 51) : SV M' A := by
  unfold SV; rw [e]; exact h
/-- one cell of the row -/
def sm (q x : Nat) : Int32 := if 60 ≤ q ∧ q < 120 then eM x else nI x
theorem SV_up {q x : Nat} (h : SV M A) : SV (xup M 51 q (sm q x)) (aUp A q x) := by
  obtain ⟨h1, h2, h3, h4, h5, h6, h7, h8⟩ := h
  have key : ∀ k, (k < 146 → M 51 k = sm k (A k)) → k < 146 → xup M 51 q (sm q x) 51 k = sm k (aUp A q x k) := fun k hk hl => by
    rw [xup_at]; unfold upd aUp
    by_cases e : k = q
    · subst e; rw [if_pos rfl, if_pos rfl]
    · rw [if_neg e, if_neg e]; exact hk hl
  have all : ∀ k, ¬ (60 ≤ k ∧ k < 120) → (∀ y, sm k y = nI y) := fun k hk y => by unfold sm; rw [if_neg hk]
  have ent : ∀ k, (60 ≤ k ∧ k < 120) → (∀ y, sm k y = eM y) := fun k hk y => by unfold sm; rw [if_pos hk]
  refine ⟨fun i hi => ?_, fun i hi => ?_, fun i hi => ?_, fun i hi => ?_, fun i hi => ?_, fun i hi => ?_, ?_, ?_⟩
  · rw [key i (fun _ => by rw [all i (by omega)]; exact h1 i hi) (by omega), all _ (by omega)]
  · rw [key _ (fun _ => by rw [all _ (by omega)]; exact h2 i hi) (by omega), all _ (by omega)]
  · rw [key _ (fun _ => by rw [all _ (by omega)]; exact h3 i hi) (by omega), all _ (by omega)]
  · rw [key _ (fun _ => by rw [all _ (by omega)]; exact h4 i hi) (by omega), all _ (by omega)]
  · rw [key _ (fun _ => by rw [ent _ (by omega)]; exact h5 i hi) (by omega), ent _ (by omega)]
  · rw [key _ (fun _ => by rw [all _ (by omega)]; exact h6 i hi) (by omega), all _ (by omega)]
  · rw [key _ (fun _ => by rw [all _ (by omega)]; exact h7) (by omega), all _ (by omega)]
  · rw [key _ (fun _ => by rw [all _ (by omega)]; exact h8) (by omega), all _ (by omega)]
theorem SV_n {q x : Nat} (h : SV M A) (hq : ¬ (60 ≤ q ∧ q < 120)) : SV (xup M 51 q (nI x)) (aUp A q x) := by
  have := SV_up (q := q) (x := x) h
  unfold sm at this; rw [if_neg hq] at this; exact this
theorem SV_e {k x : Nat} (h : SV M A) (hk : k < 60) : SV (xup M 51 (60 + k) (eM x)) (aUp A (60 + k) x) := by
  have := SV_up (q := 60 + k) (x := x) h
  unfold sm at this; rw [if_pos (by omega)] at this; exact this
theorem t_in {x : Int32} {n : Nat} (hn : n < 2147483647) (h1 : vp_in x (n + 1) → Q 1 M) (h0 : ¬ vp_in x (n + 1) → Q 0 M) : wX4_in M x 0 (nI n) Q := by
  unfold wX4_in wX4_in_14 wX4_in_15
  have e0 : (0 : Int32).toInt = 0 := rfl
  rw [vp_in_iff] at h1 h0
  rw [Int32.lt_iff_toInt_lt, Int32.lt_iff_toInt_lt, nI_toInt (by omega), e0]
  refine ⟨fun z => ⟨rfl, h0 fun q => ?_⟩, fun z => ⟨fun z2 => ⟨rfl, h0 fun q => ?_⟩, fun z2 => ⟨rfl, h1 ?_⟩⟩⟩ <;> omega
theorem t_isInode {x : Int32} (h1 : vp_in x 10 → Q 1 M) (h0 : ¬ vp_in x 10 → Q 0 M) : wX4_isInode M x Q := t_in (n := 9) (by omega) (fun z => ⟨rfl, h1 z⟩) (fun z => ⟨rfl, h0 z⟩)
theorem t_isBlock {x : Int32} (h1 : vp_in x 24 → Q 1 M) (h0 : ¬ vp_in x 24 → Q 0 M) : wX4_isBlock M x Q := t_in (n := 23) (by omega) (fun z => ⟨rfl, h1 z⟩) (fun z => ⟨rfl, h0 z⟩)
theorem t_holds {k : Nat} (hk : k < 6) (hq : Q (nI (aHolds k)) M) : wX4_holds M (nI k) Q := by
  have h : k = 0 ∨ k = 1 ∨ k = 2 ∨ k = 3 ∨ k = 4 ∨ k = 5 := by omega
  unfold wX4_holds wX4_holds_28 wX4_holds_33
  rcases h with rfl | rfl | rfl | rfl | rfl | rfl <;> repeat' (first | exact hq | (intro z; first | exact absurd z (by decide) | exact absurd (by decide) z | clear z) | constructor)
theorem t_lists {k : Nat} (hk : k < 6) (hq : Q (nI (aLists k)) M) : wX4_lists M (nI k) Q := by
  have h : k = 0 ∨ k = 1 ∨ k = 2 ∨ k = 3 ∨ k = 4 ∨ k = 5 := by omega
  unfold wX4_lists wX4_lists_20
  rcases h with rfl | rfl | rfl | rfl | rfl | rfl <;> repeat' (first | exact hq | (intro z; first | exact absurd z (by decide) | exact absurd (by decide) z | clear z) | constructor)
theorem t_isDirectory {i : Nat} (hS : SV M A) (hO : aOK A) (hi : i < 10) (hq : Q (bI (aDir A i)) M) : wX4_isDirectory M (nI i) Q := by
  have h1 := hS.1
  have h2 := hO.1 i hi
  have hl : i < 147 := by omega
  unfold wX4_isDirectory wX4_isDirectory_24 wX4_isDirectory_29
  simp (disch := omega) only [zl, z_add, Nat.zero_add, z_in, z_cl, h1, z_eq, hl, true_and]
  unfold aDir at hq
  by_cases a : A i = 2
  · simp only [a, beq_self_eq_true, Bool.true_or, bI_t] at hq
    simp only [a, not_true, false_implies, true_implies, and_true]
    exact ⟨rfl, hq⟩
  · by_cases b : A i = 5
    · simp only [b, beq_self_eq_true, Bool.or_true, bI_t] at hq
      simp only [b, not_true, false_implies, true_implies, and_true, true_and]
      exact ⟨fun z => absurd z (by decide), fun _ => ⟨rfl, hq⟩⟩
    · have : (A i == 2 || A i == 5) = false := by simp [a, b]
      rw [this, bI_f] at hq
      simp only [a, b, not_false_iff, false_implies, true_implies, and_true, true_and]
      exact ⟨rfl, hq⟩
theorem t_isEntryTo {k i : Nat} (hS : SV M A) (hO : aOK A) (hk : k < 60) (hi : i < 1000) (hq : Q (bI (aEnt A i k)) M) : wX4_isEntryTo M (nI k) (nI i) Q := by
  have h1 := hS.2.2.2.2.1 k hk
  have h2 := hO.2.2.2.2.1 k hk
  have hl : 60 + k < 147 := by omega
  unfold wX4_isEntryTo wX4_isEntryTo_33 wX4_isEntryTo_34
  simp (disch := omega) only [zl, z_add, z_in, z_cl, h1, hl, true_and, eM_n1]
  refine ⟨fun z => ⟨rfl, ?_⟩, fun z => ?_⟩
  · have e : aEnt A i k = false := by unfold aEnt; simp [z]
    rw [e] at hq; exact hq
  · rw [eM_some z]
    simp (disch := omega) only [z_div, z_eq]
    refine ⟨fun z2 => ⟨rfl, ?_⟩, fun z2 => ⟨rfl, ?_⟩⟩
    · have e : aEnt A i k = false := by unfold aEnt; simp [z2]
      rw [e] at hq; exact hq
    · have e : aEnt A i k = true := by unfold aEnt; simp [z, z2]
      rw [e] at hq; exact hq
theorem t_pointersTo {b : Nat} (hS : SV M A) (hO : aOK A) (hb : b < 1000) (hq : Q (nI (fb_ct (aTo A b) 30)) M) : wX4_pointersTo M (nI b) Q := by
  have h1 := hS.2.2.2.1
  unfold wX4_pointersTo
  refine z_loop (P := fun n j => lX4_pointersTo_4 (nI b) Q n M (nI (fb_ct (aTo A b) j)) (nI j)) 30 (fun n => ?_) (fun n j hj hn => ?_)
  · unfold lX4_pointersTo_4
    simp (disch := omega) only [zl, z_le, Nat.le_refl, true_implies, not_true, false_implies, and_true]
    exact hq
  · have h2 := hO.2.2.2.1 j hj
    have hl : 30 + j < 147 := by omega
    have hn' : lX4_pointersTo_4 (nI b) Q n M (nI (fb_ct (aTo A b) j + (if aTo A b j = true then 1 else 0))) (nI (j + 1)) := hn
    unfold lX4_pointersTo_4 wX4_pointersTo_29
    simp (disch := omega) only [zl, z_le, z_add, z_in, z_cl, h1, z_eq, hl, true_and]
    refine ⟨fun z => absurd z (by omega), fun _ => ⟨fun z => ?_, fun z => ?_⟩⟩
    · rw [if_neg (by unfold aTo; simp [z])] at hn'; exact hn'
    · rw [if_pos (by unfold aTo; simp [z])] at hn'; exact hn'
theorem t_entriesTo {i : Nat} (hS : SV M A) (hO : aOK A) (hi : i < 1000) (hq : Q (nI (fb_ct (aEnt A i) 60)) M) : wX4_entriesTo M (nI i) Q := by
  unfold wX4_entriesTo
  refine z_loop (P := fun n j => lX4_entriesTo_4 (nI i) Q n M (nI (fb_ct (aEnt A i) j)) (nI j)) 60 (fun n => ?_) (fun n j hj hn => ?_)
  · unfold lX4_entriesTo_4
    simp (disch := omega) only [zl, z_le, Nat.le_refl, true_implies, not_true, false_implies, and_true]
    exact hq
  · have hn' : lX4_entriesTo_4 (nI i) Q n M (nI (fb_ct (aEnt A i) j + (if aEnt A i j = true then 1 else 0))) (nI (j + 1)) := hn
    unfold lX4_entriesTo_4 wX4_entriesTo_25
    simp (disch := omega) only [zl 60, z_le]
    refine ⟨fun z => absurd z (by omega), fun _ => t_isEntryTo hS hO hj hi ⟨fun z => ?_, fun z => ?_⟩⟩
    · rw [if_neg (by rw [(bI_0 _).mp z]; decide)] at hn'
      rw [nI_1]; simpa using hn'
    · rw [if_pos (by cases h : aEnt A i j with | true => rfl | false => rw [h] at z; exact absurd rfl z)] at hn'
      rw [nI_1, nI_1]; exact hn'
theorem t_entryTo {i : Nat} (hS : SV M A) (hO : aOK A) (hi : i < 1000) (hq : Q (if fa_first (aEnt A i) 60 < 60 then nI (fa_first (aEnt A i) 60) else -1) M) : wX4_entryTo M (nI i) Q := by
  unfold wX4_entryTo
  refine z_loop (P := fun n j => (∀ k, k < j → aEnt A i k = false) → lX4_entryTo_2 (nI i) Q n M (nI j)) 60 (fun n hb => ?_) (fun n j hj hn hb => ?_) |>.imp fun n h => h (fun k hk => absurd hk (Nat.not_lt_zero k))
  · unfold lX4_entryTo_2
    simp (disch := omega) only [zl 60, z_le, Nat.le_refl, true_implies, not_true, false_implies, and_true]
    rw [if_neg (ff_none hb)] at hq; exact hq
  · unfold lX4_entryTo_2
    simp (disch := omega) only [zl 60, z_le]
    refine ⟨fun z => absurd z (by omega), fun _ => t_isEntryTo hS hO hj hi ⟨fun z => ?_, fun z => ?_⟩⟩
    · rw [nI_1]; exact hn (lt_snoc hb ((bI_0 _).mp z))
    · have hy : aEnt A i j = true := by cases h : aEnt A i j with | true => rfl | false => rw [h] at z; exact absurd rfl z
      rw [ff_is hb hy hj, if_pos hj] at hq; exact hq
theorem t_entries (hS : SV M A) (hO : aOK A) (hq : Q (nI (fb_ct (aFull A) 60)) M) : wX4_entries M Q := by
  have h1 := hS.2.2.2.2.1
  unfold wX4_entries
  refine z_loop (P := fun n j => lX4_entries_4 Q n M (nI (fb_ct (aFull A) j)) (nI j)) 60 (fun n => ?_) (fun n j hj hn => ?_)
  · unfold lX4_entries_4
    simp (disch := omega) only [zl, z_le, Nat.le_refl, true_implies, not_true, false_implies, and_true]
    exact hq
  · have h2 := hO.2.2.2.2.1 j hj
    have hl : 60 + j < 147 := by omega
    have hn' : lX4_entries_4 Q n M (nI (fb_ct (aFull A) j + (if aFull A j = true then 1 else 0))) (nI (j + 1)) := hn
    unfold lX4_entries_4 wX4_entries_29
    simp (disch := omega) only [zl, z_le, z_add, z_in, z_cl, h1, eM_n1, hl, true_and]
    refine ⟨fun z => absurd z (by omega), fun _ => ⟨fun z => ?_, fun z => ?_⟩⟩
    · rw [if_pos (by unfold aFull; simp [z])] at hn'; exact hn'
    · rw [if_neg (by unfold aFull; simp [z])] at hn'; exact hn'
theorem t_inodes (hS : SV M A) (hO : aOK A) (hq : Q (nI (fb_ct (aUse A) 10)) M) : wX4_inodes M Q := by
  have h1 := hS.1
  unfold wX4_inodes
  refine z_loop (P := fun n j => lX4_inodes_4 Q n M (nI (fb_ct (aUse A) j)) (nI j)) 10 (fun n => ?_) (fun n j hj hn => ?_)
  · unfold lX4_inodes_4
    simp (disch := omega) only [zl, z_le, Nat.le_refl, true_implies, not_true, false_implies, and_true]
    exact hq
  · have h2 := hO.1 j hj
    have hl : j < 147 := by omega
    have hn' : lX4_inodes_4 Q n M (nI (fb_ct (aUse A) j + (if aUse A j = true then 1 else 0))) (nI (j + 1)) := hn
    unfold lX4_inodes_4 wX4_inodes_27
    simp (disch := omega) only [zl, z_le, z_add, Nat.zero_add, z_in, z_cl, h1, z_eq, hl, true_and]
    refine ⟨fun z => absurd z (by omega), fun _ => ⟨fun z => ?_, fun z => ?_⟩⟩
    · rw [if_pos (by unfold aUse; simp [z])] at hn'; exact hn'
    · rw [if_neg (by unfold aUse; simp [z])] at hn'; exact hn'
theorem t_freeBlock (hS : SV M A) (hO : aOK A) (hq : Q (if fa_first (fun b => !aPt A b) 24 < 24 then nI (fa_first (fun b => !aPt A b) 24) else -9) M) : wX4_freeBlock M Q := by
  unfold wX4_freeBlock
  refine z_loop (P := fun n j => (∀ k, k < j → (!aPt A k) = false) → lX4_freeBlock_2 Q n M (nI j)) 24 (fun n hb => ?_) (fun n j hj hn hb => ?_) |>.imp fun n h => h (fun k hk => absurd hk (Nat.not_lt_zero k))
  · unfold lX4_freeBlock_2
    simp (disch := omega) only [zl 24, z_le, Nat.le_refl, true_implies, not_true, false_implies, and_true]
    rw [if_neg (ff_none hb)] at hq; exact hq
  · have h3 := fb_ct_le (aTo A j) 30
    unfold lX4_freeBlock_2
    simp (disch := omega) only [zl 24, z_le]
    refine ⟨fun z => absurd z (by omega), fun _ => t_pointersTo hS hO (by omega) ?_⟩
    rw [show (0 : Int32) = nI 0 from rfl, z_eq (by omega) (by omega), ct_0]
    refine ⟨fun z => ?_, fun z => ?_⟩
    · rw [nI_1]
      refine hn (lt_snoc hb ?_)
      unfold aPt
      rw [Bool.not_eq_false] at z; rw [z]; rfl
    · have hy : (!aPt A j) = true := by unfold aPt; rw [z]; rfl
      rw [ff_is (p := fun b => !aPt A b) hb hy hj, if_pos hj] at hq; exact hq
theorem t_wipes {i kd : Nat} {Q : xM → Prop} (hS : SV M A) (hi : i < 10) (hq : ∀ M', SV M' (aWipe A i kd) → (∀ p, p ≠ 51 → M' p = M p) → M' 51 146 = M 51 146 → Q M') : wX4_wipes M (nI i) (nI kd) Q := by
  have g1 : i < 147 := by omega
  have g2 : 10 + i < 147 := by omega
  have g3 : 20 + i < 147 := by omega
  unfold wX4_wipes
  simp (disch := omega) only [zl, z_add, Nat.zero_add, z_in, z_cl, g1, g2, g3, true_and]
  have c3 : SV (xup (xup (xup M 51 i (nI kd)) 51 (10 + i) (nI 0)) 51 (20 + i) (nI 0)) (aUp (aUp (aUp A i kd) (10 + i) 0) (20 + i) 0) := SV_n (SV_n (SV_n hS (by omega)) (by omega)) (by omega)
  have s3 : ∀ p, p ≠ 51 → (xup (xup (xup M 51 i (nI kd)) 51 (10 + i) (nI 0)) 51 (20 + i) (nI 0)) p = M p := fun p hp => by rw [xup_n hp, xup_n hp, xup_n hp]
  have r3 : (xup (xup (xup M 51 i (nI kd)) 51 (10 + i) (nI 0)) 51 (20 + i) (nI 0)) 51 146 = M 51 146 := by
    rw [xup_at, upd, if_neg (by omega), xup_at, upd, if_neg (by omega), xup_at, upd, if_neg (by omega)]
  generalize xup (xup (xup M 51 i (nI kd)) 51 (10 + i) (nI 0)) 51 (20 + i) (nI 0) = M3 at c3 s3 r3
  obtain ⟨B, hB⟩ : ∃ B, B = aUp (aUp (aUp A i kd) (10 + i) 0) (20 + i) 0 := ⟨_, rfl⟩
  rw [← hB] at c3
  have key := z_loop (P := fun n j => ∀ M', SV M' (fun q => if 30 + 3 * i ≤ q ∧ q < 30 + 3 * i + j then 99 else B q) → (∀ p, p ≠ 51 → M' p = M p) → M' 51 146 = M 51 146 → lX4_wipes_31 (nI i) (nI kd) Q n M' (nI j)) 3 (fun n M' hM' hs hr => ?_) (fun n j hj hn M' hM' hs hr => ?_)
  · obtain ⟨n, h⟩ := key
    exact ⟨n, h M3 (SV_cong c3 (fun q _ => by rw [if_neg (by omega)])) s3 r3⟩
  · unfold lX4_wipes_31
    simp (disch := omega) only [zl 3, z_le, Nat.le_refl, true_implies, not_true, false_implies, and_true]
    have key := z_loop (P := fun n j => ∀ M'', SV M'' (fun q => if 60 + 6 * i ≤ q ∧ q < 60 + 6 * i + j then 260 else if 30 + 3 * i ≤ q ∧ q < 30 + 3 * i + 3 then 99 else B q) → (∀ p, p ≠ 51 → M'' p = M p) → M'' 51 146 = M 51 146 → lX4_wipes_59 (nI i) (nI kd) Q n M'' (nI j)) 6 (fun n M'' hM'' hs hr => ?_) (fun n j hj hn M'' hM'' hs hr => ?_)
    · obtain ⟨n, h⟩ := key
      exact ⟨n, h M' (SV_cong hM' (fun q _ => by
        by_cases z : 60 + 6 * i ≤ q ∧ q < 60 + 6 * i + 0
        · omega
        · rw [if_neg z])) hs hr⟩
    · unfold lX4_wipes_59
      simp (disch := omega) only [zl 6, z_le, Nat.le_refl, true_implies, not_true, false_implies, and_true]
      refine hq _ (SV_cong hM'' (fun q _ => ?_)) hs hr
      subst hB
      unfold aWipe aUp
      repeat' split
      all_goals first | rfl | omega
    · unfold lX4_wipes_59
      simp (disch := omega) only [zl, z_le, z_mul, z_add, z_in, z_cl]
      refine ⟨fun z => absurd z (by omega), fun _ => ⟨by omega, hn _ ?_ (fun p hp => (xup_n hp).trans (hs p hp)) ?_⟩⟩
      · have c := SV_e (x := 260) hM'' (show 6 * i + j < 60 by omega)
        have e : eM 260 = -nI 1 := rfl
        rw [e, show 60 + (6 * i + j) = 60 + 6 * i + j by omega] at c
        refine SV_cong c fun q _ => ?_
        unfold aUp
        dsimp only
        repeat' split
        all_goals first | rfl | omega
      · rw [xup_at, upd, if_neg (by omega)]; exact hr
  · unfold lX4_wipes_31
    simp (disch := omega) only [zl, z_le, z_mul, z_add, z_in, z_cl]
    refine ⟨fun z => absurd z (by omega), fun _ => ⟨by omega, hn _ ?_ (fun p hp => (xup_n hp).trans (hs p hp)) ?_⟩⟩
    · have c := SV_n (x := 99) (q := 30 + 3 * i + j) hM' (by omega)
      refine SV_cong c fun q _ => ?_
      unfold aUp
      dsimp only
      repeat' split
      all_goals first | rfl | omega
    · rw [xup_at, upd, if_neg (by omega)]; exact hr
end RS
