/-! the volume's other reads -/
theorem tC_n9 {t : Nat} (h : t ≤ 99) : tC t = -nI 9 ↔ t = 99 := tC_m9 h
theorem eC_n9 {e : Nat} (h : e ≤ 260) : eC e = -nI 9 ↔ e = 260 := eC_m9 h
theorem eM_n1 {e : Nat} (h : e ≤ 260) : eM e = -nI 1 ↔ e = 260 := eM_m1 h
theorem bs_en {A : Nat → Nat} {k : Nat} (h : ¬ A (60 + k) = 260) (h2 : A (60 + k) ≤ 260) : bs (fun t => aEnt A t k) 10 = (1 : Int32) <<< (nI (A (60 + k) / 26) &&& 31) := by
  rw [bs_one (n := 10) (by omega) (by omega)]
  refine bs_cong fun t _ => ?_
  unfold aEnt
  rw [Bool.eq_iff_iff, Bool.and_eq_true, beq_iff_eq, decide_eq_true_eq, Bool.not_eq_true', beq_eq_false_iff_ne]
  exact ⟨fun z => z.2.symm, fun z => ⟨h, z.symm⟩⟩
theorem bs_en0 {A : Nat → Nat} {k : Nat} (h : A (60 + k) = 260) : bs (fun t => aEnt A t k) 10 = 0 := by
  rw [bs_zero (by omega)]
  intro t _
  unfold aEnt
  simp [h]
theorem bs_0f {n : Nat} : (0 : Int32) = bs (fun _ => false) n := bs_none.symm
section XV
variable {M : xM} {v : Nat} {A : Nat → Nat} {Q : Int32 → xM → Prop}
theorem r_blocksShared (hC : CV M v A) (hO : aOK A) (hq : Q (bs (fun b => decide (2 ≤ fb_ct (aTo A b) 30)) 24) M) : wX2_blocksShared M v Q := by
  unfold wX2_blocksShared
  have key := z_loop (P := fun n i => lX2_blocksShared_6 v Q n M (bs (fun b => anyN (aTo A b) (3 * i)) 24) (bs (fun b => decide (2 ≤ fb_ct (aTo A b) (3 * i))) 24) (nI i)) 10 (fun n => ?_) (fun n i hi hn => ?_)
  · have e1 : bs (fun b => anyN (aTo A b) (3 * 0)) 24 = 0 := bs_none
    have e2 : bs (fun b => decide (2 ≤ fb_ct (aTo A b) (3 * 0))) 24 = 0 := bs_none
    rw [e1, e2] at key
    exact key
  · unfold lX2_blocksShared_6
    simp (disch := omega) only [zl, z_le, Nat.le_refl, true_implies, not_true, false_implies, and_true]
    exact hq
  · unfold lX2_blocksShared_6
    simp (disch := omega) only [zl, z_le]
    refine ⟨fun z => absurd z (by omega), fun _ => ?_⟩
    refine z_loop (P := fun m p => lX2_blocksShared_15 v Q (lX2_blocksShared_6 v Q n) m M (bs (fun b => anyN (aTo A b) (3 * i + p)) 24) (bs (fun b => decide (2 ≤ fb_ct (aTo A b) (3 * i + p))) 24) (nI i) (nI p)) 3 (fun m => ?_) (fun m p hp hm => ?_)
    · unfold lX2_blocksShared_15
      simp (disch := omega) only [zl, z_le, Nat.le_refl, true_implies, not_true, false_implies, and_true, z_add]
      exact hn
    · unfold lX2_blocksShared_15
      simp (disch := omega) only [zl, z_le, z_add]
      refine ⟨fun z => absurd z (by omega), fun _ => r_blockOf hC hO hi hp ?_⟩
      have e1 : bs (fun b => anyN (aTo A b) (3 * i + p)) 24 ||| bs (fun b => aTo A b (3 * i + p)) 24 = bs (fun b => anyN (aTo A b) (3 * i + (p + 1))) 24 := bs_or _ _ (by omega)
      have e2 : bs (fun b => decide (2 ≤ fb_ct (aTo A b) (3 * i + p))) 24 ||| (bs (fun b => anyN (aTo A b) (3 * i + p)) 24 &&& bs (fun b => aTo A b (3 * i + p)) 24) = bs (fun b => decide (2 ≤ fb_ct (aTo A b) (3 * i + (p + 1)))) 24 := by
        rw [bs_and _ _ (by omega), bs_or _ _ (by omega)]
        refine bs_cong fun b _ => ?_
        rw [show 3 * i + (p + 1) = (3 * i + p) + 1 by omega, fb_ct_succ]
        have h1 : anyN (aTo A b) (3 * i + p) = true ↔ 0 < fb_ct (aTo A b) (3 * i + p) := by rw [anyN_iff, fb_ct_pos]
        rw [Bool.eq_iff_iff]
        simp only [Bool.or_eq_true, Bool.and_eq_true, decide_eq_true_eq, h1]
        cases aTo A b (3 * i + p) <;> simp <;> omega
      rw [e1, e2]
      exact hm
theorem r_freeBlock (hV : xVol v) (hC : CV M v A) (hO : aOK A) (hq : Q (if fa_first (fun b => !aPt A b) 24 < 24 then nI (fa_first (fun b => !aPt A b) 24) else -9) M) : wX2_freeBlock M v Q := by
  unfold wX2_freeBlock wX2_freeBlock_22
  refine r_blocksPointedAt hV hC hO ?_
  have hle := fa_first_le (fun b => !aPt A b) 24
  refine s_ntz (p := fa_first (fun b => !aPt A b) 24) (by omega) ?_ (fun k hk => ?_) ?_
  · rw [b_xor, bs_bt _ (by omega) (by omega), b_m1 _ (by omega)]
    rcases Nat.lt_or_ge (fa_first (fun b => !aPt A b) 24) 24 with q | q
    · have := fa_first_yes (fun b => !aPt A b) 24 q
      simp only [Bool.not_eq_true'] at this
      simp [this]
    · have : ¬ fa_first (fun b => !aPt A b) 24 < 24 := by omega
      simp [this]
  · have := fa_first_no (fun b => !aPt A b) 24 k hk
    simp only [Bool.not_eq_false'] at this
    have h24 : k < 24 := by omega
    rw [b_xor, bs_bt _ (by omega) (by omega), b_m1 _ (by omega), this]
    simp [h24]
  · simp (disch := omega) only [zl, z_le]
    refine ⟨fun z => ?_, fun z => ?_⟩
    · rw [if_neg (by omega)] at hq; exact hq
    · rw [if_pos (by omega)] at hq; exact hq
theorem r_entriesIn {i : Nat} (hC : CV M v A) (hO : aOK A) (hi : i < 10) (hq : Q (nI (fb_ct (fun s => aFull A (6 * i + s)) 6)) M) : wX2_entriesIn M v (nI i) Q := by
  unfold wX2_entriesIn
  refine z_loop (P := fun n j => lX2_entriesIn_4 v (nI i) Q n M (nI (fb_ct (fun s => aFull A (6 * i + s)) j)) (nI j)) 6 (fun n => ?_) (fun n j hj hn => ?_)
  · unfold lX2_entriesIn_4
    simp (disch := omega) only [zl, z_le, Nat.le_refl, true_implies, not_true, false_implies, and_true]
    exact hq
  · have h1 := hC.2.2.2.2.1 (6 * i + j) (by omega)
    have h2 := hO.2.2.2.2.1 (6 * i + j) (by omega)
    have hn' : lX2_entriesIn_4 v (nI i) Q n M (nI (fb_ct (fun s => aFull A (6 * i + s)) j + (if aFull A (6 * i + j) = true then 1 else 0))) (nI (j + 1)) := hn
    unfold lX2_entriesIn_4 wX2_entriesIn_32
    simp (disch := omega) only [zl, z_le, z_mul, z_add, z_in, z_cl, h1, eC_n9]
    refine ⟨fun z => absurd z (by omega), fun _ => ⟨by omega, fun z => ?_, fun z => ?_⟩⟩
    · rw [if_neg (by unfold aFull; simp [z])] at hn'; exact hn'
    · rw [if_pos (by unfold aFull; simp [z])] at hn'; exact hn'
theorem r_entriesInAll (hC : CV M v A) (hO : aOK A) (hq : Q (nI (fb_ct (aFull A) 60)) M) : wX2_entriesInAll M v Q := by
  unfold wX2_entriesInAll
  refine z_loop (P := fun n j => lX2_entriesInAll_4 v Q n M (nI (fb_ct (aFull A) (6 * j))) (nI j)) 10 (fun n => ?_) (fun n j hj hn => ?_)
  · unfold lX2_entriesInAll_4
    simp (disch := omega) only [zl, z_le, Nat.le_refl, true_implies, not_true, false_implies, and_true]
    exact hq
  · unfold lX2_entriesInAll_4
    simp (disch := omega) only [zl, z_le, z_add]
    refine ⟨fun z => absurd z (by omega), fun _ => r_entriesIn hC hO hj ?_⟩
    rw [z_add, ← fb_ct_split, show 6 * j + 6 = 6 * (j + 1) by omega]
    exact hn
theorem r_placeOfEntryTo {i : Nat} (hV : xVol v) (hC : CV M v A) (hO : aOK A) (hi : i < 99) (hq : Q (if fa_first (aEnt A i) 60 < 60 then nI (fa_first (aEnt A i) 60) else -9) M) : wX2_placeOfEntryTo M v (nI i) Q := by
  have hfl := fa_first_le (aEnt A i) 60
  unfold wX2_placeOfEntryTo
  refine z_loop (P := fun n j => (∀ k, k < j → aEnt A i k = false) → lX2_placeOfEntryTo_2 v (nI i) Q n M (nI j)) 60 (fun n hb => ?_) (fun n j hj hn hb => ?_) |>.imp fun n h => h (fun k hk => absurd hk (Nat.not_lt_zero k))
  · unfold lX2_placeOfEntryTo_2
    rw [xVol_l5 hV]
    simp (disch := omega) only [z_le, Nat.le_refl, true_implies, not_true, false_implies, and_true]
    have : ¬ fa_first (aEnt A i) 60 < 60 := fun z => by
      have h1 := fa_first_yes (aEnt A i) 60 z
      rw [hb _ z] at h1; cases h1
    rw [if_neg this] at hq; exact hq
  · have h1 := hC.2.2.2.2.1 j hj
    have h2 := hO.2.2.2.2.1 j hj
    have hstep : aEnt A i j = false → lX2_placeOfEntryTo_2 v (nI i) Q n M (nI (j + 1)) := fun z => hn (fun k hk => by
      rcases Nat.lt_or_ge k j with q | q
      · exact hb k q
      · rw [show k = j by omega]; exact z)
    unfold lX2_placeOfEntryTo_2 wX2_placeOfEntryTo_37
    rw [xVol_l5 hV]
    simp (disch := omega) only [zl, z_le, z_in, z_cl, h1, z_add, hj, true_and, eC_n9]
    refine ⟨fun z => absurd z (by omega), fun _ => ⟨fun z => ?_, fun z => ?_⟩⟩
    · exact hstep (by unfold aEnt; simp [z])
    · rw [eC_some z]
      simp (disch := omega) only [z_div, z_eq]
      refine ⟨fun z2 => hstep (by unfold aEnt; simp [z2]), fun z2 => ?_⟩
      have hy : aEnt A i j = true := by unfold aEnt; simp [z, z2]
      have hf : fa_first (aEnt A i) 60 = j := by
        rcases Nat.lt_trichotomy (fa_first (aEnt A i) 60) j with q | q | q
        · have h3 := fa_first_yes (aEnt A i) 60 (by omega)
          rw [hb _ q] at h3; cases h3
        · exact q
        · rw [fa_first_no (aEnt A i) 60 j q] at hy; cases hy
      rw [hf, if_pos hj] at hq
      exact hq
theorem r_enteredBy {i : Nat} (hC : CV M v A) (hO : aOK A) (hi : i < 10) (hq : Q (bs (aEb A i) 10) M) : wX2_enteredBy M v (nI i) Q := by
  unfold wX2_enteredBy
  have key := z_loop (P := fun n j => lX2_enteredBy_4 v (nI i) Q n M (bs (fun t => anyN (fun s => aEnt A t (6 * i + s)) j) 10) (nI j)) 6 (fun n => ?_) (fun n j hj hn => ?_)
  · have e0 : bs (fun t => anyN (fun s => aEnt A t (6 * i + s)) 0) 10 = 0 := bs_none
    rw [e0] at key; exact key
  · unfold lX2_enteredBy_4
    simp (disch := omega) only [zl, z_le, Nat.le_refl, true_implies, not_true, false_implies, and_true]
    exact hq
  · have h1 := hC.2.2.2.2.1 (6 * i + j) (by omega)
    have h2 := hO.2.2.2.2.1 (6 * i + j) (by omega)
    have hn' : lX2_enteredBy_4 v (nI i) Q n M (bs (fun t => anyN (fun s => aEnt A t (6 * i + s)) j) 10 ||| bs (fun t => aEnt A t (6 * i + j)) 10) (nI (j + 1)) := by
      rw [bs_or _ _ (by omega)]; exact hn
    unfold lX2_enteredBy_4 wX2_enteredBy_42
    simp (disch := omega) only [zl, z_le, z_mul, z_add, z_in, z_cl, h1, eC_n9]
    refine ⟨fun z => absurd z (by omega), fun _ => ⟨by omega, fun z => ?_, fun z => ?_⟩⟩
    · rw [bs_en0 z] at hn'; exact hn'
    · rw [eC_some z, z_div (by omega) (by omega) (by omega)]
      rw [bs_en z h2] at hn'; exact hn'
theorem r_enteredByThese {S : Nat → Bool} (hC : CV M v A) (hO : aOK A) (hq : Q (bs (aNx A S) 10) M) : wX2_enteredByThese M v (bs S 10) Q := by
  unfold wX2_enteredByThese
  have key := z_loop (P := fun n j => lX2_enteredByThese_4 v (bs S 10) Q n M (bs (fun t => anyN (fun i => S i && aEb A i t) j) 10) (nI j)) 10 (fun n => ?_) (fun n j hj hn => ?_)
  · have e0 : bs (fun t => anyN (fun i => S i && aEb A i t) 0) 10 = 0 := bs_none
    rw [e0] at key; exact key
  · unfold lX2_enteredByThese_4
    simp (disch := omega) only [zl, z_le, Nat.le_refl, true_implies, not_true, false_implies, and_true]
    exact hq
  · have hn' : lX2_enteredByThese_4 v (bs S 10) Q n M (bs (fun t => anyN (fun i => S i && aEb A i t) j) 10 ||| bs (fun t => S j && aEb A j t) 10) (nI (j + 1)) := by
      rw [bs_or _ _ (by omega)]; exact hn
    have ht := bs_test S (n := 10) (i := j) (by omega) hj
    unfold lX2_enteredByThese_4 wX2_enteredByThese_28
    dsimp only
    rw [ht]
    simp (disch := omega) only [zl, z_le, z_add]
    refine ⟨fun z => absurd z (by omega), fun _ => ⟨fun z => ?_, fun z => ?_⟩⟩
    · have e : S j = false := by
        cases h : S j with
        | false => rfl
        | true => rw [h, if_pos rfl] at z; exact absurd z (by decide)
      rw [e] at hn'
      have e2 : bs (fun t => false && aEb A j t) 10 = 0 := bs_none
      rw [e2] at hn'; exact hn'
    · have e : S j = true := by
        cases h : S j with
        | true => rfl
        | false => rw [h] at z; exact absurd rfl z
      rw [e] at hn'
      have e2 : bs (fun t => true && aEb A j t) 10 = bs (aEb A j) 10 := bs_cong fun t _ => Bool.true_and _
      rw [e2] at hn'
      exact r_enteredBy hC hO hj hn'
end XV
