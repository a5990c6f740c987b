/-! the class's first pass -/
theorem pIter_len {f : aT → Nat → aT} (h : ∀ T k, (f T k).2.length ≤ T.2.length + 1) (T : aT) : ∀ n, (pIter f T n).2.length ≤ T.2.length + n
  | 0 => Nat.le_refl _
  | n + 1 => by
    have h1 := h (pIter f T n) n
    have h2 := pIter_len h T n
    show (f (pIter f T n) n).2.length ≤ _
    omega
theorem pPtr_len (rf : Nat → Bool) (T : aT) (k : Nat) : (pPtr rf T k).2.length ≤ T.2.length + 1 := by
  unfold pPtr
  repeat' split
  all_goals simp
theorem pPtr_old (rf : Nat → Bool) (T : aT) {k j : Nat} (hj : j < k) (hk : k < 30) : (pPtr rf T k).1 (30 + j) = T.1 (30 + j) := by
  unfold pPtr
  repeat' split
  all_goals first
    | rfl
    | (simp only [aUp]; rw [if_neg (by omega), if_neg (by omega)])
    | (simp only [aUp]; rw [if_neg (by omega)])
theorem pRoot_len (A : Nat → Nat) : (pRoot A).2.length ≤ 1 := by
  unfold pRoot
  split <;> simp
section XP
variable {M : xM} {c : Nat} {rf : Nat → Bool} {T : aT}
/-- the reason for a pointer, by the blocks of earlier ones -/
def pFp (A : Nat → Nat) (S : Nat → Bool) (i p : Nat) : Nat := if A (30 + (3 * i + p)) = 99 then 0 else if aHolds (A i) ≤ p then 2 else if 24 ≤ A (30 + (3 * i + p)) then 3 else if S (A (30 + (3 * i + p))) = true then 4 else 0
theorem r_faultOfPointer {i p : Nat} {A : Nat → Nat} {S : Nat → Bool} {Q : Int32 → xM → Prop} (hC : CV M (c + 1) A) (hO : aOK A) (hi : i < 10) (hp : p < 3) (hq : Q (nI (pFp A S i p)) M) : wX0_faultOfPointer M c (nI i) (nI p) (bs S 24) Q := by
  have h1 : M (c + 5) (3 * i + p) = tC (A (30 + (3 * i + p))) := hC.2.2.2.1 (3 * i + p) (by omega)
  have h2 := hO.2.2.2.1 (3 * i + p) (by omega)
  have h3 : M (c + 2) i = nI (A i) := hC.1 i hi
  have h4 := hO.1 i hi
  obtain ⟨h5, h6⟩ := xhold_at _ h4
  unfold wX0_faultOfPointer wX0_faultOfPointer_66
  simp (disch := omega) only [zl 3, zl 30, zl 9, zl 10, zl 24, zl 2, zl 4, z_mul, z_add, z_in, z_cl, h1, h3, h5, tC_n9, z_lt, hi, h4, true_and]
  unfold pFp at hq
  refine ⟨by omega, fun z => ⟨fun z2 => ?_, fun z2 => ?_⟩, fun z => ?_⟩
  · rw [if_neg z, if_neg (by omega)] at hq
    rw [tC_some z]
    simp (disch := omega) only [z_lt]
    refine ⟨fun z3 => ?_, fun z3 => ?_⟩
    · rw [if_neg (by omega)] at hq
      rw [bs_test S (by omega) z3]
      cases hS : S (A (30 + (3 * i + p))) with
      | true =>
        rw [hS, if_pos rfl] at hq
        exact ⟨fun z4 => absurd z4 (by decide), fun _ => hq⟩
      | false =>
        rw [hS, if_neg (by decide)] at hq
        exact ⟨fun _ => hq, fun z4 => absurd rfl z4⟩
    · rw [if_pos (by omega)] at hq; exact hq
  · rw [if_neg z, if_pos (by omega)] at hq; exact hq
  · rw [if_pos z] at hq; exact hq
theorem CK_byt {f x : Nat} (h : CK M c rf T) (hf : f < 24) (hx : x ≤ 99) : CK (xup M (c + 7) f (nI x)) c rf (aUp T.1 (120 + f) x, T.2) :=
  CK_vol h (CV_byt h.1 hf) (aOK_byt h.2.1 hf hx) (sOff_up (by omega))
theorem CK_ptr {k x : Nat} (h : CK M c rf T) (hk : k < 30) (hx : x ≤ 99) : CK (xup M (c + 5) k (tC x)) c rf (aUp T.1 (30 + k) x, T.2) :=
  CK_vol h (CV_ptr h.1 hk) (aOK_ptr h.2.1 hk hx) (sOff_up (by omega))
theorem r_cloneFor {i b : Nat} {Q : Int32 → xM → Prop} (hc : xChk c) (h : CK M c rf T) (hi : i < 10) (hb : b < 24) (h1 : T.1 i ≠ 4 ∧ fa_first (fun b => !aPt T.1 b) 24 < 24 → ∀ M', CK M' c rf (aUp T.1 (120 + fa_first (fun b => !aPt T.1 b) 24) (T.1 (120 + b)), T.2) → sOff c (c + 11) M M' → Q (nI (fa_first (fun b => !aPt T.1 b) 24)) M') (h0 : ¬ (T.1 i ≠ 4 ∧ fa_first (fun b => !aPt T.1 b) 24 < 24) → Q (-9) M) : wX0_cloneFor M c (nI i) (nI b) Q := by
  have k1 : M (c + 2) i = nI (T.1 i) := h.1.1 i hi
  have k2 := h.2.1.1 i hi
  have k3 : M (c + 7) b = nI (T.1 (120 + b)) := h.1.2.2.2.2.2.1 b hb
  have k4 := h.2.1.2.2.2.2.2.1 b hb
  unfold wX0_cloneFor wX0_cloneFor_25 wX0_cloneFor_50
  simp (disch := omega) only [zl 10, zl 4, zl 24, z_in, z_cl, k1, z_eq, hi, hb, true_and, k3]
  refine ⟨fun z => r_freeBlock (xChk_v hc) h.1 h.2.1 ?_, fun z => ⟨fun _ => h0 (fun q => q.1 z), fun z2 => absurd trivial z2⟩⟩
  split
  · rename_i hf
    refine ⟨fun z2 => ?_, fun _ => ⟨by rw [z_in (by omega) (by omega)]; exact hf, ?_⟩⟩
    · exact absurd z2 (by rw [show (-9 : Int32) = -nI 9 from rfl, z_neq (by omega) (by omega) (by omega)]; exact id)
    · rw [z_cl (by omega), k3]
      exact h1 ⟨z, hf⟩ _ (CK_byt h hf k4) (sOff_up (by omega))
  · rename_i hf
    exact ⟨fun _ => h0 (fun q => hf q.2), fun z2 => absurd rfl z2⟩
theorem r_mendPointers_39 {A : Nat → Nat} {Q : xM → Prop} (hc : xChk c) (hr : rfOK rf) (h : CK M c rf (pRoot A)) (hq : ∀ M', CK M' c rf (pChk1 rf A) → sOff c (c + 11) M M' → Q M') : wX0_mendPointers_39 c Q M := by
  have hlen : ∀ n, (pIter (pPtr rf) (pRoot A) n).2.length ≤ 1 + n := fun n => by
    have h1 := pIter_len (pPtr_len rf) (pRoot A) n
    have h2 := pRoot_len A
    omega
  unfold wX0_mendPointers_39
  have key := z_loop (P := fun n i => ∀ M', CK M' c rf (pIter (pPtr rf) (pRoot A) (3 * i)) → sOff c (c + 11) M M' → lX0_mendPointers_43 c Q n M' (bs (fun b => anyN (aTo (pIter (pPtr rf) (pRoot A) (3 * i)).1 b) (3 * i)) 24) (nI i)) 10 (fun n M' k1 s1 => ?_) (fun n i hi hn M' k1 s1 => ?_)
  · obtain ⟨n, hn⟩ := key
    refine ⟨n, ?_⟩
    have e0 : bs (fun b => anyN (aTo (pIter (pPtr rf) (pRoot A) (3 * 0)).1 b) (3 * 0)) 24 = 0 := bs_none
    have := hn M h sOff_rf
    rw [e0] at this
    exact this
  · unfold lX0_mendPointers_43
    simp (disch := omega) only [zl 10, z_le, Nat.le_refl, true_implies, not_true, false_implies, and_true]
    exact hq M' k1 s1
  · unfold lX0_mendPointers_43
    dsimp only
    simp (disch := omega) only [zl 10, z_le]
    refine ⟨fun z => absurd z (by omega), fun _ => ?_⟩
    have key := z_loop (P := fun m p => ∀ M'', CK M'' c rf (pIter (pPtr rf) (pRoot A) (3 * i + p)) → sOff c (c + 11) M M'' → lX0_mendPointers_51 c Q (lX0_mendPointers_43 c Q n) m M'' (bs (fun b => anyN (aTo (pIter (pPtr rf) (pRoot A) (3 * i + p)).1 b) (3 * i + p)) 24) (nI i) (nI p)) 3 (fun m M'' k2 s2 => ?_) (fun m p hp hm M'' k2 s2 => ?_)
    · obtain ⟨m, hm⟩ := key
      exact ⟨m, hm M' k1 s1⟩
    · unfold lX0_mendPointers_51
      simp (disch := omega) only [zl 3, zl 1, z_le, Nat.le_refl, true_implies, not_true, false_implies, and_true, z_add]
      exact hn M'' k2 s2
    · have hstep : pIter (pPtr rf) (pRoot A) (3 * i + (p + 1)) = pPtr rf (pIter (pPtr rf) (pRoot A) (3 * i + p)) (3 * i + p) := rfl
      have hl := hlen (3 * i + p)
      rw [hstep] at hm
      generalize hT : pIter (pPtr rf) (pRoot A) (3 * i + p) = T at k2 hl hm ⊢
      have e3 : (3 * i + p) / 3 = i := by omega
      have e4 : (3 * i + p) % 3 = p := by omega
      -- the end of a turn
      have fin : ∀ M3, CK M3 c rf (pPtr rf T (3 * i + p)) → sOff c (c + 11) M M3 → wX0_mendPointers_124 c Q (lX0_mendPointers_43 c Q n) (lX0_mendPointers_51 c Q (lX0_mendPointers_43 c Q n) m) M3 (bs (fun b => anyN (aTo T.1 b) (3 * i + p)) 24) (nI i) (nI p) := by
        intro M3 k3 s3
        unfold wX0_mendPointers_124
        refine r_blockOf k3.1 k3.2.1 hi hp ?_
        rw [zl 1, z_add, bs_or _ _ (by omega)]
        have eb : bs (fun b => anyN (aTo T.1 b) (3 * i + p) || aTo (pPtr rf T (3 * i + p)).1 b (3 * i + p)) 24 = bs (fun b => anyN (aTo (pPtr rf T (3 * i + p)).1 b) (3 * i + (p + 1))) 24 := bs_cong fun b _ => by
          show (_ || _) = (anyN _ (3 * i + p) || _)
          rw [anyN_cong (p := aTo T.1 b) (q := aTo (pPtr rf T (3 * i + p)).1 b) (fun q hq => by unfold aTo; rw [pPtr_old rf T hq (by omega)])]
          rfl
        rw [eb]
        exact hm M3 k3 s3
      unfold lX0_mendPointers_51 wX0_mendPointers_123
      dsimp only
      simp (disch := omega) only [zl 3, z_le]
      refine ⟨fun z => absurd z (by omega), fun _ => r_faultOfPointer k2.1 k2.2.1 hi hp ?_⟩
      have hpt := hstep
      have bnd := k2.2.1.2.2.2.1 (3 * i + p) (by omega)
      have hv : M'' (c + 5) (3 * i + p) = tC (T.1 (30 + (3 * i + p))) := k2.1.2.2.2.1 (3 * i + p) (by omega)
      -- a reason that is asked, whatever the mending is
      have ask : ∀ r, r < 17 → r ≠ 0 → r ≠ 4 → rf r = false → pPtr rf T (3 * i + p) = (aUp T.1 (30 + (3 * i + p)) 99, T.2 ++ [(r, i, p)]) → (nI r = 0 → wX0_mendPointers_124 c Q (lX0_mendPointers_43 c Q n) (lX0_mendPointers_51 c Q (lX0_mendPointers_43 c Q n) m) M'' (bs (fun b => anyN (aTo T.1 b) (3 * i + p)) 24) (nI i) (nI p)) ∧ (¬ nI r = 0 → wX0_asks M'' c (nI r) (nI i) (nI p) (fun r82 M82 => (r82 = 0 → wX0_mendPointers_124 c Q (lX0_mendPointers_43 c Q n) (lX0_mendPointers_51 c Q (lX0_mendPointers_43 c Q n) m) M82 (bs (fun b => anyN (aTo T.1 b) (3 * i + p)) 24) (nI i) (nI p)) ∧ (¬ r82 = 0 → (¬ nI r = (4 : Int32) → vp_in (nI 3 * nI i + nI p) 30 ∧ wX0_mendPointers_124 c Q (lX0_mendPointers_43 c Q n) (lX0_mendPointers_51 c Q (lX0_mendPointers_43 c Q n) m) (xup M82 (c + 5) (nI 3 * nI i + nI p).toNatClampNeg (-9)) (bs (fun b => anyN (aTo T.1 b) (3 * i + p)) 24) (nI i) (nI p)) ∧ (nI r = (4 : Int32) → vp_in (nI 3 * nI i + nI p) 30 ∧ wX0_cloneFor M82 c (nI i) (M82 (c + 5) (nI 3 * nI i + nI p).toNatClampNeg) (fun r115 M115 => vp_in (nI 3 * nI i + nI p) 30 ∧ wX0_mendPointers_124 c Q (lX0_mendPointers_43 c Q n) (lX0_mendPointers_51 c Q (lX0_mendPointers_43 c Q n) m) (xup M115 (c + 5) (nI 3 * nI i + nI p).toNatClampNeg r115) (bs (fun b => anyN (aTo T.1 b) (3 * i + p)) 24) (nI i) (nI p)))))) := by
        intro r hr17 hr0 hr4 hrf hpp
        refine ⟨fun z => absurd z (by rw [zl 0, z_eq (by omega) (by omega)]; exact hr0), fun _ => ?_⟩
        refine r_asks k2 hr17 (by omega) (fun z => by rw [hrf] at z; cases z) (fun _ M82 k82 s82 _ _ => ?_)
        refine ⟨fun z => absurd z (by decide), fun _ => ⟨fun _ => ?_, fun z => absurd z (by rw [zl 4, z_eq (by omega) (by omega)]; exact hr4)⟩⟩
        rw [z_mul, z_add, z_in (by omega) (by omega), z_cl (by omega)]
        refine ⟨by omega, fin _ ?_ (sOff_tr (sOff_tr s2 s82) (sOff_up (by omega)))⟩
        have ck := CK_ptr (k := 3 * i + p) (x := 99) k82 (by omega) (by omega)
        rw [hpp]
        exact ck
      unfold pFp
      by_cases a1 : T.1 (30 + (3 * i + p)) = 99
      · rw [if_pos a1]
        have hp0 : pPtr rf T (3 * i + p) = T := by unfold pPtr; rw [if_pos a1]
        exact ⟨fun _ => fin M'' (by rw [hp0]; exact k2) s2, fun z => absurd rfl z⟩
      · rw [if_neg a1]
        by_cases a2 : aHolds (T.1 i) ≤ p
        · rw [if_pos a2]
          exact ask 2 (by omega) (by omega) (by omega) (by cases h : rf 2 with | false => rfl | true => rcases hr 2 h with h | h | h | h | h <;> omega) (by unfold pPtr; rw [if_neg a1, e3, e4, if_pos a2])
        · rw [if_neg a2]
          by_cases a3 : 24 ≤ T.1 (30 + (3 * i + p))
          · rw [if_pos a3]
            exact ask 3 (by omega) (by omega) (by omega) (by cases h : rf 3 with | false => rfl | true => rcases hr 3 h with h | h | h | h | h <;> omega) (by unfold pPtr; rw [if_neg a1, e3, e4, if_neg a2, if_pos a3])
          · rw [if_neg a3]
            by_cases a4 : anyN (aTo T.1 (T.1 (30 + (3 * i + p)))) (3 * i + p) = true
            · rw [if_pos a4]
              refine ⟨fun z => absurd z (by decide), fun _ => ?_⟩
              have hp4 : pPtr rf T (3 * i + p) = if rf 4 = false then (if T.1 i ≠ 4 ∧ fa_first (fun b => !aPt T.1 b) 24 < 24 then aUp (aUp T.1 (120 + fa_first (fun b => !aPt T.1 b) 24) (T.1 (120 + T.1 (30 + (3 * i + p))))) (30 + (3 * i + p)) (fa_first (fun b => !aPt T.1 b) 24) else aUp T.1 (30 + (3 * i + p)) 99, T.2 ++ [(4, i, p)]) else T := by
                unfold pPtr
                rw [if_neg a1, e3, e4, if_neg a2, if_neg a3]
                by_cases h4 : rf 4 = false
                · rw [if_pos ⟨h4, a4⟩, if_pos h4]
                · rw [if_neg (fun q => h4 q.1), if_neg h4]
              refine r_asks k2 (by omega) (by omega) (fun z => ?_) (fun hf M82 k82 s82 _ _ => ?_)
              · refine ⟨fun _ => fin M'' ?_ s2, fun z2 => absurd rfl z2⟩
                rw [hp4, if_neg (by rw [z]; decide)]; exact k2
              · refine ⟨fun z => absurd z (by decide), fun _ => ⟨fun z => absurd rfl z, fun _ => ?_⟩⟩
                rw [hp4, if_pos hf] at fin
                have hv2 : M82 (c + 5) (3 * i + p) = nI (T.1 (30 + (3 * i + p))) := by
                  have q1 : M82 (c + 5) (3 * i + p) = tC (T.1 (30 + (3 * i + p))) := k82.1.2.2.2.1 (3 * i + p) (by omega)
                  rw [q1, tC_some a1]
                rw [z_mul, z_add, z_in (by omega) (by omega), z_cl (by omega), hv2]
                refine ⟨by omega, r_cloneFor hc k82 hi (by omega) (fun hcl M115 k115 s115 => ?_) (fun hcl => ?_)⟩
                · have hle := fa_first_le (fun b => !aPt T.1 b) 24
                  rw [if_pos hcl] at fin
                  refine ⟨by omega, fin _ ?_ (sOff_tr (sOff_tr (sOff_tr s2 s82) s115) (sOff_up (by omega)))⟩
                  have ck := CK_ptr (k := 3 * i + p) (x := fa_first (fun b => !aPt T.1 b) 24) k115 (by omega) (by omega)
                  rw [tC_some (by omega)] at ck
                  exact ck
                · rw [if_neg hcl] at fin
                  refine ⟨by omega, fin _ ?_ (sOff_tr (sOff_tr s2 s82) (sOff_up (by omega)))⟩
                  exact CK_ptr (k := 3 * i + p) (x := 99) k82 (by omega) (by omega)
            · rw [if_neg a4]
              have hp0 : pPtr rf T (3 * i + p) = T := by unfold pPtr; rw [if_neg a1, e3, e4, if_neg a2, if_neg a3, if_neg (fun q => a4 q.2)]
              exact ⟨fun _ => fin M'' (by rw [hp0]; exact k2) s2, fun z => absurd rfl z⟩
end XP
