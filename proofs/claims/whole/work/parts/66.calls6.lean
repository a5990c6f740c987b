/-! calls that try another volume: mending by wiping, what an inode is -/
section K6
variable {M : xM} {A : Nat → Nat} {rf : Nat → Bool}
theorem c_take {Q : xM → Prop} (h : IV M A rf) (hq : ∀ M1, CV M1 8 A → IV M1 A rf → cOff M M1 → Q M1) : wX2_takeFrom M 8 1 Q :=
  r_takeFrom (v := 8) (o := 1) xVol_at8 xVol_at1 (by omega) h.1 (fun M1 c1 s1 => hq M1 c1 (IV_c h fun p hp => s1 p (by omega)) (cOff_s s1 (by omega)))
theorem c_runT {B : Nat → Nat} {Q : xM → Prop} (h : IV M A rf) (hC : CV M 8 B) (hO : aOK B) (hq : ∀ M1, CK M1 22 rf (pChk rf B) → IV M1 A rf → cOff M M1 → Q M1) : wX0_run M 22 8 (M 0 11) Q := by
  rw [h.2.2.2.1]
  exact r_run (c := 22) (o := 8) (Or.inl rfl) xVol_at8 (by omega) (by omega) h.2.2.1 hO (pChk_hJ hO) hC (fun M1 k1 s1 => hq M1 k1 (IV_c h fun p hp => s1 p (by omega)) (cOff_s s1 (by omega)))
def bm (f : Nat → Nat) (f0 : Nat) : Nat → Nat × Nat
  | 0 => (0, f0)
  | j + 1 => if f (j + 1) < (bm f f0 j).2 then (j + 1, f (j + 1)) else bm f f0 j
theorem bm_le (f : Nat → Nat) (f0 : Nat) (N : Nat) (h : ∀ i, f i ≤ N) (h0 : f0 ≤ N) : ∀ j, (bm f f0 j).1 ≤ j ∧ (bm f f0 j).2 ≤ N
  | 0 => ⟨Nat.le_refl 0, h0⟩
  | j + 1 => by
    have := bm_le f f0 N h h0 j
    show (if f (j + 1) < (bm f f0 j).2 then (j + 1, f (j + 1)) else bm f f0 j).1 ≤ j + 1 ∧ (if f (j + 1) < (bm f f0 j).2 then (j + 1, f (j + 1)) else bm f f0 j).2 ≤ N
    have h2 := h (j + 1)
    by_cases z : f (j + 1) < (bm f f0 j).2
    · rw [if_pos z]; exact ⟨Nat.le_refl _, h2⟩
    · rw [if_neg z]; exact ⟨by omega, this.2⟩
theorem k_mend {a : Int32} (h : Inv M) : wX3_mend M a (fun r M1 => wX4_mend M1 a (fun r2 M2 => r = r2 ∧ Inv M2)) := by
  have h0 := h
  obtain ⟨hR, A, rf, hV⟩ := h
  have hO := hV.2.1
  obtain ⟨f, hf⟩ : ∃ f : Nat → Nat, f = fun i => (pChk rf (aWipe A i 0)).2.length := ⟨_, rfl⟩
  obtain ⟨f0, hf0⟩ : ∃ f0, f0 = (pChk rf A).2.length := ⟨_, rfl⟩
  have hfi : ∀ i, (pChk rf (aWipe A i 0)).2.length = f i := fun i => by rw [hf]
  have hfb : ∀ i, f i ≤ 175 := fun i => by rw [hf]; exact pChk_len _ _
  have hf0b : f0 ≤ 175 := by rw [hf0]; exact pChk_len _ _
  have hb := bm_le f f0 175 hfb hf0b
  have go : (a = 0 ∨ a = 1) → wX3_mend_16 a (fun r M1 => wX4_mend M1 a (fun r2 M2 => r = r2 ∧ Inv M2)) M := fun ha => by
    have hin := (two01 a).mpr ha
    -- the reference's half
    have ref : ∀ M1, IV M1 A rf → cOff M M1 → ∀ r : Int32, (a = 0 → r = (if (bm f f0 9).1 = 0 then -9 else nI (bm f f0 9).1)) → (¬ a = 0 → r = (if (bm f f0 9).1 = 0 then -9 else nI (bm f f0 9).2)) → wX4_mend M1 a (fun r2 M2 => r = r2 ∧ Inv M2) := by
      intro M1 i1 c1 r r0 r1
      unfold wX4_mend
      refine t_inA (n := 1) (by omega) (fun _ => ?_) (fun q => absurd hin q)
      refine r_think i1.2.2.2.2.1 hO i1.2.2.2.2.2 (fun M2 k2 f2 d2 => ?_)
      rw [← hf0]
      have key := z_loop (P := fun n j => ∀ M3, FR M3 A rf → dOff M1 M3 → lX4_mend_31 a (fun r2 M2 => r = r2 ∧ Inv M2) n M3 (nI (bm f f0 j).2) (if (bm f f0 j).1 = 0 then -9 else nI (bm f f0 j).1) (nI (j + 1))) 9 (fun n M3 f3 d3 => ?_) (fun n j hj hn M3 f3 d3 => ?_)
      · obtain ⟨n, hn⟩ := key
        exact ⟨n, hn M2 f2 d2⟩
      · unfold lX4_mend_31 wX4_mend_101 wX4_mend_106
        dsimp only
        refine ⟨fun _ => r_back f3 (fun M4 s4 t4 f4 o4 => ?_), fun z => absurd (show (10 : Int32) ≤ nI (9 + 1) by decide) z⟩
        have fin := inv_q hR c1 i1 (dOff_tr d3 (dOff_51 o4)) s4 t4
        refine ⟨fun z => ⟨?_, fin⟩, fun z => ⟨fun z2 => ⟨?_, fin⟩, fun z2 => ⟨r0 z2, fin⟩⟩⟩
        · have e : (bm f f0 9).1 = 0 := by
            by_cases q : (bm f f0 9).1 = 0
            · exact q
            · have := (hb 9).1
              rw [if_neg q, show (-9 : Int32) = -nI 9 from rfl, z_neq (by omega) (by omega) (by omega)] at z; exact z.elim
          by_cases q : a = 0
          · exact r0 q
          · rw [if_pos e]; rw [r1 q, if_pos e]
        · have e : ¬ (bm f f0 9).1 = 0 := fun q => z (by rw [if_pos q])
          rw [r1 z2, if_neg e]
      · have b1 := hb j
        have hn' : ∀ M3, FR M3 A rf → dOff M1 M3 → lX4_mend_31 a (fun r2 M2 => r = r2 ∧ Inv M2) n M3 (nI (if f (j + 1) < (bm f f0 j).2 then (j + 1, f (j + 1)) else bm f f0 j).2) (if (if f (j + 1) < (bm f f0 j).2 then (j + 1, f (j + 1)) else bm f f0 j).1 = 0 then -9 else nI (if f (j + 1) < (bm f f0 j).2 then (j + 1, f (j + 1)) else bm f f0 j).1) (nI (j + 1 + 1)) := hn
        unfold lX4_mend_31 wX4_mend_67 wX4_mend_80
        dsimp only
        rw [show (10 : Int32) = nI 10 from rfl, z_le (by omega) (by omega), nI_1]
        refine ⟨fun z => absurd z (by omega), fun _ => r_back f3 (fun M4 s4 t4 f4 o4 => ?_)⟩
        refine t_wipes (i := j + 1) (kd := 0) s4 (by omega) (fun M5 s5 o5 t5 => ?_)
        have f5 : FR M5 A rf := FR_r f4 (o5 53 (by omega))
        refine r_chk s5 (aOK_wipe hO (by omega) (by omega)) (t5.trans t4) f5 (fun M6 k6 f6 d6 => ?_)
        have d36 : dOff M1 M6 := dOff_tr (dOff_tr (dOff_tr d3 (dOff_51 o4)) (dOff_51 o5)) d6
        have hb1 := hfb (j + 1)
        rw [hfi, z_le (by omega) (by omega)]
        refine ⟨fun z => ⟨fun _ => ?_, fun q => absurd z q⟩, fun z => ⟨fun q => absurd q z, fun _ => ?_⟩⟩
        · have := hn' M6 f6 d36
          rw [if_neg (show ¬ f (j + 1) < (bm f f0 j).2 by omega)] at this
          exact this
        · have := hn' M6 f6 d36
          rw [if_pos (show f (j + 1) < (bm f f0 j).2 by omega)] at this
          dsimp only at this
          rw [if_neg (show ¬ j + 1 = 0 by omega)] at this
          exact this
    unfold wX3_mend_16
    refine c_run hV (fun M1 k1 s1 i1 c1 => ?_)
    have e4 : M1 22 4 = nI f0 := by rw [hf0]; exact k1.2.2.1
    rw [e4]
    have key := z_loop (P := fun n j => ∀ M3, IV M3 A rf → cOff M M3 → lX3_mend_45 a (fun r M1 => wX4_mend M1 a (fun r2 M2 => r = r2 ∧ Inv M2)) n M3 (nI (bm f f0 j).2) (if (bm f f0 j).1 = 0 then -9 else nI (bm f f0 j).1) (nI (j + 1))) 9 (fun n M3 i3 c3 => ?_) (fun n j hj hn M3 i3 c3 => ?_)
    · obtain ⟨n, hn⟩ := key
      exact ⟨n, hn M1 i1 c1⟩
    · unfold lX3_mend_45 wX3_mend_125 wX3_mend_130
      dsimp only
      refine ⟨fun _ => ?_, fun z => absurd (show (10 : Int32) ≤ nI (9 + 1) by decide) z⟩
      refine ⟨fun z => ref M3 i3 c3 _ (fun _ => rfl) (fun q => absurd z q), fun z => ⟨fun z2 => ref M3 i3 c3 _ (fun q => absurd q z) (fun _ => ?_), fun z2 => ref M3 i3 c3 _ (fun q => absurd q z) (fun _ => ?_)⟩⟩
      · rw [if_neg (fun q => z2 (by rw [if_pos q]))]
      · have e : (bm f f0 9).1 = 0 := by
          by_cases q : (bm f f0 9).1 = 0
          · exact q
          · have := (hb 9).1
            rw [if_neg q, show (-9 : Int32) = -nI 9 from rfl, z_neq (by omega) (by omega) (by omega)] at z2; exact z2.elim
        rw [if_pos e, if_pos e]
    · have b1 := hb j
      have hn' : ∀ M3, IV M3 A rf → cOff M M3 → lX3_mend_45 a (fun r M1 => wX4_mend M1 a (fun r2 M2 => r = r2 ∧ Inv M2)) n M3 (nI (if f (j + 1) < (bm f f0 j).2 then (j + 1, f (j + 1)) else bm f f0 j).2) (if (if f (j + 1) < (bm f f0 j).2 then (j + 1, f (j + 1)) else bm f f0 j).1 = 0 then -9 else nI (if f (j + 1) < (bm f f0 j).2 then (j + 1, f (j + 1)) else bm f f0 j).1) (nI (j + 1 + 1)) := hn
      unfold lX3_mend_45 wX3_mend_109
      dsimp only
      rw [show (10 : Int32) = nI 10 from rfl, z_le (by omega) (by omega), nI_1]
      refine ⟨fun z => absurd z (by omega), fun _ => c_take i3 (fun M4 v4 i4 c4 => ?_)⟩
      refine r_wipe (v := 8) (i := j + 1) v4 (by omega) (fun M5 v5 s5 => ?_)
      have i5 : IV M5 A rf := IV_c i4 fun p hp => s5 p (by omega)
      refine c_runT i5 v5 (aOK_wipe hO (by omega) (by omega)) (fun M6 k6 i6 c6 => ?_)
      have c36 : cOff M M6 := cOff_tr (cOff_tr (cOff_tr c3 c4) (cOff_s s5 (by omega))) c6
      have e6 : M6 22 4 = nI (f (j + 1)) := by rw [← hfi]; exact k6.2.2.1
      have hb1 := hfb (j + 1)
      rw [e6, z_le (by omega) (by omega)]
      refine ⟨fun z => ?_, fun z => ?_⟩
      · have := hn' M6 i6 c36
        rw [if_neg (show ¬ f (j + 1) < (bm f f0 j).2 by omega)] at this
        exact this
      · have := hn' M6 i6 c36
        rw [if_pos (show f (j + 1) < (bm f f0 j).2 by omega)] at this
        dsimp only at this
        rw [if_neg (show ¬ j + 1 = 0 by omega)] at this
        exact this
  unfold wX3_mend
  refine ⟨fun z => go (Or.inl z), fun z => ⟨fun z2 => go (Or.inr z2), fun z2 => ?_⟩⟩
  unfold wX4_mend
  refine k_ref (n := 2) (by omega) ?_
  exact t_inA (n := 1) (by omega) (fun q => absurd ((two01 a).mp q) (fun w => w.elim z z2)) (fun _ => fin_ref (by omega) h0)
/-- the row's reasons are those asked, from the first on -/
def rA (f : Nat → Int32) (nr : Nat) (q : aQ) : Bool := decide (nr ≤ q.length) && !anyN (fun j => !decide (f j = nI (q.getD j (0, 0, 0)).1)) nr
theorem c_rowIsAsked {q : aQ} {nr : Nat} {Q : Int32 → xM → Prop} (h9 : M 0 9 = nI nr) (hn : nr ≤ 32) (h4 : M 22 4 = nI q.length) (hA : qAt M 30 31 32 q) (hl : q.length ≤ 175) (hq : Q (bI (rA (M 48) nr q)) M) : wX3_rowIsAsked M Q := by
  unfold wX3_rowIsAsked
  rw [h9, h4, z_le (by omega) (by omega)]
  refine ⟨fun z => ?_, fun z => ?_⟩
  · have e : rA (M 48) nr q = !anyN (fun j => !decide (M 48 j = nI (q.getD j (0, 0, 0)).1)) nr := by unfold rA; rw [decide_eq_true z, Bool.true_and]
    rw [e] at hq
    refine z_loop (P := fun n j => anyN (fun j => !decide (M 48 j = nI (q.getD j (0, 0, 0)).1)) j = false → lX3_rowIsAsked_18 Q n M (nI j)) nr (fun n hb => ?_) (fun n j hj hn2 hb => ?_) |>.imp fun n h => h rfl
    · unfold lX3_rowIsAsked_18
      dsimp only
      rw [h9]
      rw [hb] at hq
      exact ⟨fun _ => hq, fun z => absurd ((z_le (by omega) (by omega)).mpr (Nat.le_refl _)) z⟩
    · have v := (hA j (by omega)).1
      unfold lX3_rowIsAsked_18
      dsimp only
      rw [h9, z_le (by omega) (by omega), z_cl (by omega), z_in (by omega) (by omega), z_in (by omega) (by omega), v, nI_1]
      refine ⟨fun z => absurd z (by omega), fun _ => ⟨by omega, by omega, fun z2 => hn2 ?_, fun z2 => ?_⟩⟩
      · rw [anyN, hb, decide_eq_true z2]; rfl
      · have : anyN (fun j => !decide (M 48 j = nI (q.getD j (0, 0, 0)).1)) nr = true := anyN_iff.mpr ⟨j, hj, by rw [decide_eq_false z2]; rfl⟩
        rw [this] at hq; exact hq
  · have e : rA (M 48) nr q = false := by unfold rA; rw [decide_eq_false z, Bool.false_and]
    rw [e] at hq; exact hq
theorem t_isSo {B : Nat → Nat} {nr : Nat} {D : Nat → Nat} {rg : Nat → Bool} {Q : Int32 → xM → Prop} (hS : SV M B) (hO : aOK B) (h6 : M 51 146 = bs rf 17) (hF : FR M D rg) (h9 : M 50 16 = nI nr) (hn : nr ≤ 32) (hq : ∀ M1, FR M1 D rg → dOff M M1 → Q (bI (rA (M 59) nr (pChk rf B).2)) M1) : wX4_isSo M Q := by
  unfold wX4_isSo
  refine r_chk hS hO h6 hF (fun M1 k1 f1 d1 => ?_)
  have hl := pChk_len rf B
  have a2 := k1.2.2.2.2
  have e16 : M1 50 16 = nI nr := by rw [d1.2 16 (by omega) (by omega) (by omega) (by omega) (by omega)]; exact h9
  have e59 : M1 59 = M 59 := d1.1 59 (by omega) (by omega) (by omega) (by omega) (by omega) (by omega)
  have hq1 := hq M1 f1 d1
  generalize (pChk rf B).2 = q at a2 hl hq1
  have fin : ∀ b : Bool, rA (M 59) nr q = b → wX4_isSo_60 Q M1 (bI b) := fun b hb => by
    unfold wX4_isSo_60
    rw [hb] at hq1
    exact ⟨bI_1 b, hq1⟩
  unfold wX4_isSo_18
  rw [e16, z_lt (by omega) (by omega)]
  have lp : ∀ b : Bool, (decide (nr ≤ q.length)) = b → ∃ n, lX4_isSo_21 Q n M1 (bI b) 0 := fun b hb => by
    have key := z_loop (P := fun n j => lX4_isSo_21 Q n M1 (bI (b && !anyN (fun j => !decide (M 59 j = nI (q.getD j (0, 0, 0)).1)) j)) (nI j)) nr (fun n => ?_) (fun n j hj hn2 => ?_)
    · obtain ⟨n, hn3⟩ := key
      refine ⟨n, ?_⟩
      have hn3 : lX4_isSo_21 Q n M1 (bI (b && true)) (nI 0) := hn3
      rw [Bool.and_true] at hn3; exact hn3
    · unfold lX4_isSo_21
      dsimp only
      rw [e16]
      exact ⟨fun _ => fin _ (by unfold rA; rw [hb]), fun z => absurd ((z_le (by omega) (by omega)).mpr (Nat.le_refl _)) z⟩
    · unfold lX4_isSo_21 wX4_isSo_53
      dsimp only
      rw [e16, z_le (by omega) (by omega), nI_1]
      refine ⟨fun z => absurd z (by omega), fun _ => ⟨fun z => ?_, fun z => ?_⟩⟩
      · have z' := (bI_0 _).mp z
        rw [z']
        refine fin false ?_
        unfold rA
        rw [hb]
        cases b with
        | false => rfl
        | true =>
          rw [Bool.true_and, Bool.not_eq_false'] at z'
          obtain ⟨k, hk, h2⟩ := anyN_iff.mp z'
          rw [anyN_iff.mpr ⟨k, by omega, h2⟩]; rfl
      · have z' := bI_ne z
        rw [Bool.and_eq_true, Bool.not_eq_true'] at z'
        have hb1 : b = true := z'.1
        have hlen : nr ≤ q.length := of_decide_eq_true (hb.trans hb1)
        have v := (a2 j (by omega)).1
        have hn3 : lX4_isSo_21 Q n M1 (bI (b && !(anyN (fun j => !decide (M 59 j = nI (q.getD j (0, 0, 0)).1)) j || !decide (M 59 j = nI (q.getD j (0, 0, 0)).1)))) (nI (j + 1)) := hn2
        rw [hb1, z'.2, Bool.true_and, Bool.false_or, Bool.not_not] at hn3
        rw [z_cl (by omega), z_in (by omega) (by omega), z_in (by omega) (by omega), v, e59]
        refine ⟨by omega, by omega, fun z2 => ?_, fun z2 => ?_⟩
        · rw [decide_eq_false (fun q => z2 q.symm)] at hn3; exact hn3
        · rw [decide_eq_true z2.symm] at hn3; exact hn3
  exact ⟨fun z => lp false (decide_eq_false (Nat.not_le_of_lt z)), fun z => lp true (decide_eq_true (Nat.le_of_not_lt z))⟩
/-- the volume with one number told otherwise -/
def aTell (A : Nat → Nat) (i : Nat) (a : Int32) (v : Nat) : Nat → Nat := aUp A (if a = 0 then i else 10 + i) v
theorem aTell_ok {i v : Nat} {a : Int32} (hO : aOK A) (hi : i < 10) (hv : v < (if a = 0 then 6 else 10)) : aOK (aTell A i a v) := by
  unfold aTell
  by_cases z : a = 0
  · rw [if_pos z] at hv ⊢; exact aOK_kind hO hi hv
  · rw [if_neg z] at hv ⊢; exact aOK_link hO hi hv
theorem k_whatIs {a b : Int32} (h : Inv M) : wX3_whatIs M a b (fun r M1 => wX4_whatIs M1 a b (fun r2 M2 => r = r2 ∧ Inv M2)) := by
  have h0 := h
  obtain ⟨hR, A, rf, hV⟩ := h
  have hR0 := hR
  obtain ⟨hR1, ⟨nr, b1, b2, b3, b4⟩, hR3, hR4⟩ := hR
  have hO := hV.2.1
  unfold wX3_whatIs
  refine k_outA (N := 10) (by omega) (fun ha => ?_) (fun ha => ?_)
  · obtain ⟨i, hi, rfl⟩ := vp_in_of ha (by omega)
    have bw : ∀ q, rA (M 59) nr q = rA (M 48) nr q := fun q => by
      unfold rA
      congr 2
      exact anyN_cong fun k hk => by
        obtain ⟨x, _, x1, x2⟩ := b4 k hk
        rw [x1, x2]
    obtain ⟨N, hN⟩ : ∃ N, N = (if b = 0 then 6 else 10) := ⟨_, rfl⟩
    have hN10 : N ≤ 10 := by rw [hN]; split <;> omega
    obtain ⟨s, hs⟩ : ∃ s : Nat → Bool, s = fun v => rA (M 48) nr (pChk rf (aTell A i b v)).2 := ⟨_, rfl⟩
    have go : (b = 0 ∨ b = 1) → wX3_whatIs_31 (nI i) b (fun r M1 => wX4_whatIs M1 (nI i) b (fun r2 M2 => r = r2 ∧ Inv M2)) M := fun hb => by
      have hin := (two01 b).mpr hb
      have ref : ∀ M1, IV M1 A rf → cOff M M1 → wX4_whatIs M1 (nI i) b (fun r2 M2 => bs s N = r2 ∧ Inv M2) := by
        intro M1 i1 c1
        unfold wX4_whatIs
        refine t_isInodeA (fun _ => t_inA (n := 1) (by omega) (fun _ => ?_) (fun q => absurd hin q)) (fun q => absurd ha q)
        refine r_keep i1.2.2.2.2.1 i1.2.2.2.2.2 (fun M2 f2 s2 t2 o2 => ?_)
        have key := z_loop (P := fun n j => ∀ M3, FR M3 A rf → dOff M1 M3 → lX4_whatIs_38 (nI i) b (fun r2 M2 => bs s N = r2 ∧ Inv M2) n M3 (bs s j) (nI j)) N (fun n M3 f3 d3 => ?_) (fun n j hj hn M3 f3 d3 => ?_)
        · obtain ⟨n, hn⟩ := key
          exact ⟨n, hn M2 f2 (dOff_53 o2)⟩
        · have last : ∀ x : Int32, x = nI N → wX4_whatIs_51 (nI i) b (fun r2 M2 => bs s N = r2 ∧ Inv M2) (lX4_whatIs_38 (nI i) b (fun r2 M2 => bs s N = r2 ∧ Inv M2) n) M3 (bs s N) (nI N) x (nI N) := fun x hx => by
            unfold wX4_whatIs_51
            rw [hx]
            refine ⟨fun _ => r_back f3 (fun M4 s4 t4 f4 o4 => ⟨rfl, inv_q hR0 c1 i1 (dOff_tr d3 (dOff_51 o4)) s4 t4⟩), fun z => absurd ((z_le (by omega) (by omega)).mpr (Nat.le_refl _)) z⟩
          unfold lX4_whatIs_38
          dsimp only
          exact ⟨fun z => last 10 (by rw [hN, if_neg z]; rfl), fun z => last 6 (by rw [hN, if_pos z]; rfl)⟩
        · have hn' : ∀ M3, FR M3 A rf → dOff M1 M3 → lX4_whatIs_38 (nI i) b (fun r2 M2 => bs s N = r2 ∧ Inv M2) n M3 (bs s j ||| (if s j = true then (1 : Int32) <<< (nI j &&& 31) else 0)) (nI (j + 1)) := hn
          have turn : ∀ x : Int32, x = nI N → wX4_whatIs_51 (nI i) b (fun r2 M2 => bs s N = r2 ∧ Inv M2) (lX4_whatIs_38 (nI i) b (fun r2 M2 => bs s N = r2 ∧ Inv M2) n) M3 (bs s j) (nI j) x (nI j) := fun x hx => by
            unfold wX4_whatIs_51
            rw [hx, z_le (by omega) (by omega)]
            refine ⟨fun z => absurd z (by omega), fun _ => r_back f3 (fun M4 s4 t4 f4 o4 => ?_)⟩
            have set : ∀ y : Int32, ∀ p : Nat, y + nI i = nI p → p = (if b = 0 then i else 10 + i) → wX4_whatIs_72 (nI i) b (fun r2 M2 => bs s N = r2 ∧ Inv M2) (lX4_whatIs_38 (nI i) b (fun r2 M2 => bs s N = r2 ∧ Inv M2) n) M4 (bs s j) (nI j) y := fun y p hy hp => by
              have hp20 : p < 20 := by rw [hp]; split <;> omega
              unfold wX4_whatIs_72 wX4_whatIs_93
              rw [hy, z_cl (by omega), z_in (by omega) (by omega), nI_1]
              have sv : SV (xup M4 51 p (nI j)) (aTell A i b j) := by
                unfold aTell; rw [← hp]; exact SV_n s4 (by omega)
              refine ⟨by omega, ?_⟩
              have o5 : dOff M1 (xup M4 51 p (nI j)) := dOff_tr (dOff_tr d3 (dOff_51 o4)) dOff_s
              have e16 : xup M4 51 p (nI j) 50 16 = nI nr := by
                rw [o5.2 16 (by omega) (by omega) (by omega) (by omega) (by omega), c1.1 50 (by omega) (by omega) (by omega)]; exact b3
              have e59 : xup M4 51 p (nI j) 59 = M 59 := by
                rw [o5.1 59 (by omega) (by omega) (by omega) (by omega) (by omega) (by omega), c1.1 59 (by omega) (by omega) (by omega)]
              refine t_isSo sv (aTell_ok hO hi (by rw [← hN]; exact hj)) (by rw [xup_at, upd, if_neg (by omega)]; exact t4) (FR_r f4 (xup_n (by omega))) e16 b1 (fun M6 f6 d6 => ?_)
              have st : rA (xup M4 51 p (nI j) 59) nr (pChk rf (aTell A i b j)).2 = s j := by rw [e59, bw, hs]
              rw [st]
              have := hn' M6 f6 (dOff_tr o5 d6)
              refine ⟨fun z => ?_, fun z => ?_⟩
              · rw [if_neg (by rw [(bI_0 _).mp z]; decide)] at this; exact this
              · rw [if_pos (bI_ne z)] at this; exact this
            refine ⟨fun z => set 10 (10 + i) (z_add 10 i) (by rw [if_neg z]), fun z => set 0 i (by rw [show (0 : Int32) = nI 0 from rfl, z_add, Nat.zero_add]) (by rw [if_pos z])⟩
          unfold lX4_whatIs_38
          dsimp only
          exact ⟨fun z => turn 10 (by rw [hN, if_neg z]; rfl), fun z => turn 6 (by rw [hN, if_pos z]; rfl)⟩
      have loop : ∀ x : Int32, x + 1 = nI N → wX3_whatIs_43 (nI i) b (fun r M1 => wX4_whatIs M1 (nI i) b (fun r2 M2 => r = r2 ∧ Inv M2)) M x := fun x hx => by
        have hN1 : 0 < N := by rw [hN]; split <;> omega
        have hx2 : x = nI (N - 1) := by
          have e : nI (N - 1) + 1 = nI N := by rw [nI_1]; congr 1; omega
          rw [← e] at hx
          have := congrArg (fun y : Int32 => y + (-1)) hx
          simp only [Int32.add_assoc, show (1 : Int32) + (-1) = 0 from by decide, Int32.add_zero] at this
          exact this
        rw [hx2]
        unfold wX3_whatIs_43
        have key := z_loop (P := fun n j => ∀ M3, IV M3 A rf → cOff M M3 → lX3_whatIs_48 (nI i) b (fun r M1 => wX4_whatIs M1 (nI i) b (fun r2 M2 => r = r2 ∧ Inv M2)) n M3 (bs s j) (nI (N - 1)) (nI j)) N (fun n M3 i3 c3 => ?_) (fun n j hj hn M3 i3 c3 => ?_)
        · obtain ⟨n, hn⟩ := key
          exact ⟨n, hn M hV cOff_rf⟩
        · unfold lX3_whatIs_48
          dsimp only
          rw [z_lt (by omega) (by omega)]
          exact ⟨fun _ => ref M3 i3 c3, fun z => absurd (by omega) z⟩
        · have hn' : ∀ M3, IV M3 A rf → cOff M M3 → lX3_whatIs_48 (nI i) b (fun r M1 => wX4_whatIs M1 (nI i) b (fun r2 M2 => r = r2 ∧ Inv M2)) n M3 (bs s j ||| (if s j = true then (1 : Int32) <<< (nI j &&& 31) else 0)) (nI (N - 1)) (nI (j + 1)) := hn
          unfold lX3_whatIs_48
          dsimp only
          rw [z_lt (by omega) (by omega)]
          refine ⟨fun z => absurd z (by omega), fun _ => c_take i3 (fun M4 v4 i4 c4 => ?_)⟩
          have half : ∀ M5, CV M5 8 (aTell A i b j) → IV M5 A rf → cOff M4 M5 → wX3_whatIs_95 (nI i) b (fun r M1 => wX4_whatIs M1 (nI i) b (fun r2 M2 => r = r2 ∧ Inv M2)) (lX3_whatIs_48 (nI i) b (fun r M1 => wX4_whatIs M1 (nI i) b (fun r2 M2 => r = r2 ∧ Inv M2)) n) M5 (bs s j) (nI (N - 1)) (nI j) := by
            intro M5 v5 i5 c5
            unfold wX3_whatIs_95 wX3_whatIs_126
            refine c_runT i5 v5 (aTell_ok hO hi (by rw [← hN]; exact hj)) (fun M6 k6 i6 c6 => ?_)
            have c36 : cOff M M6 := cOff_tr (cOff_tr (cOff_tr c3 c4) c5) c6
            have e9 : M6 0 9 = nI nr := by rw [c36.2 9 (by omega) (by omega)]; exact b2
            have e48 : M6 48 = M 48 := c36.1 48 (by omega) (by omega) (by omega)
            refine c_rowIsAsked e9 b1 k6.2.2.1 k6.2.2.2.2 (pChk_len _ _) ?_
            have st : rA (M6 48) nr (pChk rf (aTell A i b j)).2 = s j := by rw [e48, hs]
            rw [st, nI_1]
            have := hn' M6 i6 c36
            refine ⟨fun z => ?_, fun z => ?_⟩
            · rw [if_neg (by rw [(bI_0 _).mp z]; decide)] at this; exact this
            · rw [if_pos (bI_ne z)] at this; exact this
          rw [z_cl (by omega), z_in (by omega) (by omega)]
          refine ⟨fun z => ⟨hi, half _ ?_ (IV_c i4 fun p hp => xup_n (by omega)) (cOff_up (by omega))⟩, fun z => ⟨hi, half _ ?_ (IV_c i4 fun p hp => xup_n (by omega)) (cOff_up (by omega))⟩⟩
          · unfold aTell; rw [if_neg z]; exact CV_link (v := 8) v4 hi
          · unfold aTell; rw [if_pos z]; exact CV_kind (v := 8) v4 hi
      unfold wX3_whatIs_31
      refine ⟨fun z => loop 9 (by rw [hN, if_neg z]; rfl), fun z => loop 5 (by rw [hN, if_pos z]; rfl)⟩
    refine ⟨fun z => go (Or.inl z), fun z => ⟨fun z2 => go (Or.inr z2), fun z2 => ?_⟩⟩
    unfold wX4_whatIs
    refine k_ref (n := 2) (by omega) ?_
    exact t_isInodeA (fun _ => t_inA (n := 1) (by omega) (fun q => absurd ((two01 b).mp q) (fun w => w.elim z z2)) (fun _ => fin_ref (by omega) h0)) (fun q => absurd ha q)
  · unfold wX4_whatIs
    refine k_ref (n := 1) (by omega) ?_
    exact t_isInodeA (fun q => absurd q ha) (fun _ => fin_ref (by omega) h0)
end K6
