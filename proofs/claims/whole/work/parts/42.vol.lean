/-! a volume as numbers: A 0..9 kinds, 10.. links, 20.. parents, 30.. pointers (99 none), 60.. slots (260 empty), 120.. bytes, 144 the map of blocks, 145 of inodes; the class's Volume at v holds it -/
def tC (t : Nat) : Int32 := if t = 99 then (-9 : Int32) else nI t
def eC (e : Nat) : Int32 := if e = 260 then (-9 : Int32) else nI e
def eM (e : Nat) : Int32 := if e = 260 then (-1 : Int32) else nI e
def bI (b : Bool) : Int32 := if b = true then 1 else 0
theorem bI_0 (b : Bool) : bI b = 0 ↔ b = false := by cases b <;> decide
theorem bI_1 (b : Bool) : bI b &&& 1 = bI b := by cases b <;> decide
theorem bI_t : bI true = 1 := rfl
theorem bI_f : bI false = 0 := rfl
theorem tC_m9 {t : Nat} (h : t ≤ 99) : tC t = -9 ↔ t = 99 := by
  unfold tC
  split
  · simp [*]
  · rw [show (-9 : Int32) = -nI 9 from rfl, z_neq (by omega) (by omega) (by omega)]
    simp [*]
theorem eC_m9 {e : Nat} (h : e ≤ 260) : eC e = -9 ↔ e = 260 := by
  unfold eC
  split
  · simp [*]
  · rw [show (-9 : Int32) = -nI 9 from rfl, z_neq (by omega) (by omega) (by omega)]
    simp [*]
theorem eC_some {e : Nat} (h : ¬ e = 260) : eC e = nI e := if_neg h
theorem tC_some {e : Nat} (h : ¬ e = 99) : tC e = nI e := if_neg h
theorem eM_some {e : Nat} (h : ¬ e = 260) : eM e = nI e := if_neg h
theorem eM_m1 {e : Nat} (h : e ≤ 260) : eM e = -1 ↔ e = 260 := by
  unfold eM
  split
  · simp [*]
  · rw [show (-1 : Int32) = -nI 1 from rfl, z_neq (by omega) (by omega) (by omega)]
    simp [*]
def CV (M : xM) (v : Nat) (A : Nat → Nat) : Prop := (∀ i, i < 10 → M (v + 1) i = nI (A i)) ∧ (∀ i, i < 10 → M (v + 2) i = nI (A (10 + i))) ∧ (∀ i, i < 10 → M (v + 3) i = nI (A (20 + i))) ∧ (∀ k, k < 30 → M (v + 4) k = tC (A (30 + k))) ∧ (∀ k, k < 60 → M (v + 5) k = eC (A (60 + k))) ∧ (∀ b, b < 24 → M (v + 6) b = nI (A (120 + b))) ∧ M v 6 = nI (A 144) ∧ M v 7 = nI (A 145)
def aOK (A : Nat → Nat) : Prop := (∀ i, i < 10 → A i < 6) ∧ (∀ i, i < 10 → A (10 + i) < 10) ∧ (∀ i, i < 10 → A (20 + i) < 10) ∧ (∀ k, k < 30 → A (30 + k) ≤ 99) ∧ (∀ k, k < 60 → A (60 + k) ≤ 260) ∧ (∀ b, b < 24 → A (120 + b) ≤ 99) ∧ A 144 < 2 ^ 24 ∧ A 145 < 2 ^ 10
def aDir (A : Nat → Nat) (i : Nat) : Bool := A i == 2 || A i == 5
def aUse (A : Nat → Nat) (i : Nat) : Bool := !(A i == 0)
def aHolds (k : Nat) : Nat := ([0, 3, 1, 0, 2, 1] : List Nat).getD k 0
def aLists (k : Nat) : Nat := ([0, 0, 4, 0, 0, 6] : List Nat).getD k 0
theorem xhold_at : ∀ k, k < 6 → xhold k = nI (aHolds k) ∧ aHolds k ≤ 3 := by decide
theorem xlist_at : ∀ k, k < 6 → xlist k = nI (aLists k) ∧ aLists k ≤ 6 := by decide
def anyN (p : Nat → Bool) : Nat → Bool
  | 0 => false
  | n + 1 => anyN p n || p n
theorem anyN_iff {p : Nat → Bool} {n : Nat} : anyN p n = true ↔ ∃ k, k < n ∧ p k = true := by
  induction n with
  | zero => simp [anyN]
  | succ n ih =>
    rw [anyN, Bool.or_eq_true, ih]
    constructor
    · rintro (⟨k, h1, h2⟩ | h)
      · exact ⟨k, by omega, h2⟩
      · exact ⟨n, by omega, h⟩
    · rintro ⟨k, h1, h2⟩
      rcases Nat.lt_or_ge k n with q | q
      · exact Or.inl ⟨k, q, h2⟩
      · rw [show k = n by omega] at h2; exact Or.inr h2
theorem anyN_not {p : Nat → Bool} {n : Nat} : anyN p n = false ↔ ∀ k, k < n → p k = false := by
  rw [← Bool.not_eq_true, anyN_iff]
  simp
theorem anyN_cong {p q : Nat → Bool} : ∀ {n : Nat}, (∀ k, k < n → p k = q k) → anyN p n = anyN q n
  | 0, _ => rfl
  | n + 1, h => by rw [anyN, anyN, anyN_cong (fun k hk => h k (by omega)), h n (by omega)]
/-- a pointer to a block; an entry to an inode -/
def aTo (A : Nat → Nat) (b k : Nat) : Bool := A (30 + k) == b
def aEnt (A : Nat → Nat) (i k : Nat) : Bool := !(A (60 + k) == 260) && (A (60 + k) / 26 == i)
def aFull (A : Nat → Nat) (k : Nat) : Bool := !(A (60 + k) == 260)
def aPt (A : Nat → Nat) (b : Nat) : Bool := anyN (aTo A b) 30
def aEb (A : Nat → Nat) (i t : Nat) : Bool := anyN (fun s => aEnt A t (6 * i + s)) 6
def aNx (A : Nat → Nat) (S : Nat → Bool) (t : Nat) : Bool := anyN (fun i => S i && aEb A i t) 10
def aS (A : Nat → Nat) (i : Nat) : Nat → Nat → Bool
  | 0 => fun t => t == i
  | n + 1 => fun t => aS A i n t || aNx A (aS A i n) t
def aHas (A : Nat → Nat) (i b : Nat) : Bool := anyN (fun p => aTo A b (3 * i + p)) 3
theorem bs_to {A : Nat → Nat} {j : Nat} (h : A (30 + j) < 24) : bs (fun b => aTo A b j) 24 = (1 : Int32) <<< (nI (A (30 + j)) &&& 31) := by
  rw [bs_one (n := 24) (by omega) h]
  refine bs_cong fun k _ => ?_
  unfold aTo
  rw [Bool.eq_iff_iff, beq_iff_eq, decide_eq_true_eq]
  exact ⟨Eq.symm, Eq.symm⟩
theorem bs_to0 {A : Nat → Nat} {j : Nat} (h : 24 ≤ A (30 + j)) : bs (fun b => aTo A b j) 24 = 0 := by
  rw [bs_zero (by omega)]
  intro k hk
  unfold aTo
  rw [beq_eq_false_iff_ne]; omega
section XV
variable {M : xM} {v : Nat} {A : Nat → Nat} {Q : Int32 → xM → Prop}
theorem r_inside {x : Int32} {N : Nat} (hN : N < 2147483648) (h : vp_in x N) (hq : Q 0 M) : wX3_isOutside M x (nI N) Q := by
  unfold wX3_isOutside wX3_isOutside_9 wX3_isOutside_14
  have e0 : (0 : Int32).toInt = 0 := rfl
  have h2 := vp_in_iff.mp h
  refine ⟨fun z => ?_, fun z => ⟨fun _ => ⟨rfl, hq⟩, fun z2 => ?_⟩⟩
  · rw [Int32.lt_iff_toInt_lt, e0] at z; omega
  · rw [Int32.lt_iff_toInt_lt, nI_toInt hN] at z2; omega
theorem r_outside {x : Int32} {N : Nat} (hN : N < 2147483648) (h : ¬ vp_in x N) (hq : Q 1 M) : wX3_isOutside M x (nI N) Q := by
  unfold wX3_isOutside wX3_isOutside_9 wX3_isOutside_14
  have e0 : (0 : Int32).toInt = 0 := rfl
  have h2 := fun z => h (vp_in_iff.mpr z)
  refine ⟨fun _ => ⟨rfl, hq⟩, fun z => ⟨fun z2 => ?_, fun _ => ⟨rfl, hq⟩⟩⟩
  rw [Int32.lt_iff_toInt_lt, e0] at z
  rw [Int32.lt_iff_toInt_lt, nI_toInt hN] at z2
  exact absurd ⟨by omega, by omega⟩ h2
theorem r_isDirectory {i : Nat} (hC : CV M v A) (hO : aOK A) (hi : i < 10) (hq : Q (bI (aDir A i)) M) : wX2_isDirectory M v (nI i) Q := by
  have h1 := hC.1
  have h2 := hO.1 i hi
  unfold wX2_isDirectory wX2_isDirectory_20 wX2_isDirectory_25
  simp (disch := omega) only [zl, z_in, z_cl, h1, z_eq, hi, true_and]
  unfold aDir at hq
  by_cases a : A i = 2
  · simp only [a, beq_self_eq_true, Bool.true_or, bI_t] at hq
    simp only [a, not_true, false_implies, true_implies, and_true]
    exact ⟨rfl, hq⟩
  · by_cases b : A i = 5
    · simp only [b, beq_self_eq_true, Bool.or_true, bI_t] at hq
      simp only [b, not_true, false_implies, true_implies, and_true, true_and]
      exact ⟨fun z => absurd z (by decide), fun _ => ⟨rfl, hq⟩⟩
    · have : (A i == 2 || A i == 5) = false := by simp [a, b]
      rw [this, bI_f] at hq
      simp only [a, b, not_false_iff, false_implies, true_implies, and_true, true_and]
      exact ⟨rfl, hq⟩
theorem r_inodesInUse (hC : CV M v A) (hO : aOK A) (hq : Q (bs (aUse A) 10) M) : wX2_inodesInUse M v Q := by
  have h1 := hC.1
  unfold wX2_inodesInUse
  refine z_loop (P := fun n j => lX2_inodesInUse_4 v Q n M (bs (aUse A) j) (nI j)) 10 (fun n => ?_) (fun n j hj hn => ?_)
  · unfold lX2_inodesInUse_4
    simp (disch := omega) only [zl, z_le, Nat.le_refl, true_implies, not_true, false_implies, and_true]
    exact hq
  · have h2 := hO.1 j hj
    have hn' : lX2_inodesInUse_4 v Q n M (bs (aUse A) j ||| (if aUse A j = true then (1 : Int32) <<< (nI j &&& 31) else 0)) (nI (j + 1)) := hn
    unfold lX2_inodesInUse_4 wX2_inodesInUse_27
    simp (disch := omega) only [zl, z_le, z_in, z_cl, h1, z_eq, z_add, hj, true_and]
    refine ⟨fun z => absurd z (by omega), fun _ => ⟨fun z => ?_, fun z => ?_⟩⟩
    · have e : aUse A j = false := by unfold aUse; simp [z]
      rw [e] at hn'; exact hn'
    · have e : aUse A j = true := by unfold aUse; simp [z]
      rw [e] at hn'; exact hn'
theorem r_directories (hV : xVol v) (hC : CV M v A) (hO : aOK A) (hq : Q (bs (aDir A) 10) M) : wX2_directories M v Q := by
  unfold wX2_directories
  refine z_loop (P := fun n j => lX2_directories_4 v Q n M (bs (aDir A) j) (nI j)) 10 (fun n => ?_) (fun n j hj hn => ?_)
  · unfold lX2_directories_4
    simp (disch := omega) only [zl, z_le, Nat.le_refl, true_implies, not_true, false_implies, and_true]
    exact hq
  · have hn' : lX2_directories_4 v Q n M (bs (aDir A) j ||| (if aDir A j = true then (1 : Int32) <<< (nI j &&& 31) else 0)) (nI (j + 1)) := hn
    unfold lX2_directories_4 wX2_directories_26
    simp (disch := omega) only [zl, z_le, z_add]
    refine ⟨fun z => absurd z (by omega), fun _ => r_isDirectory hC hO hj ⟨fun z => ?_, fun z => ?_⟩⟩
    · rw [if_neg (by rw [(bI_0 _).mp z]; decide)] at hn'; exact hn'
    · rw [if_pos (by cases h : aDir A j with | true => rfl | false => rw [h] at z; exact absurd rfl z)] at hn'; exact hn'
theorem r_pointersTo {b : Nat} (hV : xVol v) (hC : CV M v A) (hO : aOK A) (hb : b < 99) (hq : Q (nI (fb_ct (aTo A b) 30)) M) : wX2_pointersTo M v (nI b) Q := by
  have h1 := hC.2.2.2.1
  unfold wX2_pointersTo
  refine z_loop (P := fun n j => lX2_pointersTo_4 v (nI b) Q n M (nI (fb_ct (aTo A b) j)) (nI j)) 30 (fun n => ?_) (fun n j hj hn => ?_)
  · unfold lX2_pointersTo_4
    rw [xVol_l4 hV]
    simp (disch := omega) only [z_le, Nat.le_refl, true_implies, not_true, false_implies, and_true]
    exact hq
  · have h2 := hO.2.2.2.1 j hj
    have hn' : lX2_pointersTo_4 v (nI b) Q n M (nI (fb_ct (aTo A b) j + (if aTo A b j = true then 1 else 0))) (nI (j + 1)) := hn
    unfold lX2_pointersTo_4 wX2_pointersTo_29
    rw [xVol_l4 hV]
    simp (disch := omega) only [zl, z_le, z_in, z_cl, h1, z_add, hj, true_and]
    refine ⟨fun z => absurd z (by omega), fun _ => ?_⟩
    have e : tC (A (30 + j)) = nI b ↔ A (30 + j) = b := by
      unfold tC
      split
      · rw [show (-9 : Int32) = -nI 9 from rfl, z_neq' (by omega) (by omega) (by omega)]
        constructor
        · exact False.elim
        · omega
      · exact z_eq (by omega) (by omega)
    rw [e]
    refine ⟨fun z => ?_, fun z => ?_⟩
    · rw [if_neg (by unfold aTo; simp [z])] at hn'; exact hn'
    · rw [if_pos (by unfold aTo; simp [z])] at hn'; exact hn'
theorem r_blockOf {i p : Nat} (hC : CV M v A) (hO : aOK A) (hi : i < 10) (hp : p < 3) (hq : Q (bs (fun b => aTo A b (3 * i + p)) 24) M) : wX2_blockOf M v (nI i) (nI p) Q := by
  have h1 := hC.2.2.2.1 (3 * i + p) (by omega)
  have h2 := hO.2.2.2.1 (3 * i + p) (by omega)
  unfold wX2_blockOf wX2_blockOf_27
  simp (disch := omega) only [zl, z_mul, z_add, z_in, z_cl, h1]
  refine ⟨by omega, ?_⟩
  by_cases h : A (30 + (3 * i + p)) < 24
  · have e := bs_to (A := A) (j := 3 * i + p) h
    rw [tC_some (by omega)]
    refine r_inside (by omega) ((z_in (by omega) (by omega)).mpr h) ⟨fun _ => ?_, fun z => absurd rfl z⟩
    rw [e] at hq
    exact hq
  · have e := bs_to0 (A := A) (j := 3 * i + p) (by omega)
    have ho : ¬ vp_in (tC (A (30 + (3 * i + p)))) 24 := by
      unfold tC
      split
      · intro z; exact absurd (vp_in_iff.mp z).1 (by decide)
      · rw [z_in (by omega) (by omega)]; exact h
    refine r_outside (by omega) ho ⟨fun z => absurd z (by decide), fun _ => ?_⟩
    rw [e] at hq
    exact hq
theorem r_blocksOf {i : Nat} (hC : CV M v A) (hO : aOK A) (hi : i < 10) (hq : Q (bs (aHas A i) 24) M) : wX2_blocksOf M v (nI i) Q := by
  unfold wX2_blocksOf
  have e0 : (0 : Int32) = bs (fun b => anyN (fun p => aTo A b (3 * i + p)) 0) 24 := by rw [eq_comm, bs_zero (by omega)]; intro k _; rfl
  have key := z_loop (P := fun n j => lX2_blocksOf_4 v (nI i) Q n M (bs (fun b => anyN (fun p => aTo A b (3 * i + p)) j) 24) (nI j)) 3 (fun n => ?_) (fun n j hj hn => ?_)
  · rw [← e0] at key; exact key
  · unfold lX2_blocksOf_4
    simp (disch := omega) only [zl, z_le, Nat.le_refl, true_implies, not_true, false_implies, and_true]
    exact hq
  · unfold lX2_blocksOf_4
    simp (disch := omega) only [zl, z_le, z_add]
    refine ⟨fun z => absurd z (by omega), fun _ => r_blockOf hC hO hi hj ?_⟩
    rw [bs_or _ _ (by omega)]
    exact hn
theorem r_blocksPointedAt (hV : xVol v) (hC : CV M v A) (hO : aOK A) (hq : Q (bs (aPt A) 24) M) : wX2_blocksPointedAt M v Q := by
  have h1 := hC.2.2.2.1
  unfold wX2_blocksPointedAt
  have e0 : (0 : Int32) = bs (fun b => anyN (aTo A b) 0) 24 := by rw [eq_comm, bs_zero (by omega)]; intro k _; rfl
  have key := z_loop (P := fun n j => lX2_blocksPointedAt_4 v Q n M (bs (fun b => anyN (aTo A b) j) 24) (nI j)) 30 (fun n => ?_) (fun n j hj hn => ?_)
  · rw [← e0] at key; exact key
  · unfold lX2_blocksPointedAt_4
    rw [xVol_l4 hV]
    simp (disch := omega) only [z_le, Nat.le_refl, true_implies, not_true, false_implies, and_true]
    exact hq
  · have h2 := hO.2.2.2.1 j hj
    have hn' : lX2_blocksPointedAt_4 v Q n M (bs (fun b => anyN (aTo A b) j) 24 ||| bs (fun b => aTo A b j) 24) (nI (j + 1)) := by
      rw [bs_or _ _ (by omega)]; exact hn
    unfold lX2_blocksPointedAt_4 wX2_blocksPointedAt_37 wX2_blocksPointedAt_38
    rw [xVol_l4 hV]
    simp (disch := omega) only [zl, z_le, z_in, z_cl, h1, z_add, hj, true_and]
    refine ⟨fun z => absurd z (by omega), fun _ => ?_⟩
    by_cases h99 : A (30 + j) = 99
    · rw [bs_to0 (by omega)] at hn'
      refine ⟨fun _ => hn', fun z => absurd (show tC (A (30 + j)) < nI 0 by rw [h99]; decide) z⟩
    · rw [tC_some h99]
      simp (disch := omega) only [z_lt, z_le, Nat.not_lt_zero, false_implies, not_false_iff, true_implies, true_and]
      refine ⟨fun z => ?_, fun z => ?_⟩
      · rw [bs_to0 z] at hn'; exact hn'
      · rw [bs_to (by omega)] at hn'; exact hn'
end XV
