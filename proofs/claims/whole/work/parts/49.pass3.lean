/-! the class's third pass: connections, parents -/
theorem aNm_free (A : Nat → Nat) (i : Nat) : fa_first (fun nm => !aNm A i nm) 26 ≤ 6 := by
  rcases Nat.lt_or_ge 6 (fa_first (fun nm => !aNm A i nm) 26) with q | q
  · exfalso
    have h1 : ∀ n, n < 7 → ∃ s, s < 6 ∧ (aFull A (6 * i + s) && (A (60 + (6 * i + s)) % 26 == n)) = true := fun n hn => by
      have := fa_first_no (fun nm => !aNm A i nm) 26 n (by omega)
      simp only [Bool.not_eq_false'] at this
      unfold aNm at this
      exact anyN_iff.mp this
    have h2 : ∀ n, ∃ s, n < 7 → s < 6 ∧ (aFull A (6 * i + s) && (A (60 + (6 * i + s)) % 26 == n)) = true := fun n => by
      by_cases hn : n < 7
      · obtain ⟨s, hs⟩ := h1 n hn
        exact ⟨s, fun _ => hs⟩
      · exact ⟨0, fun z => absurd z hn⟩
    have h3 := fb_holes 6 7 (fun n => Classical.choose (h2 n)) (fun n hn => (Classical.choose_spec (h2 n) hn).1) (fun a b hab hb e => by
      have ha := (Classical.choose_spec (h2 a) (by omega)).2
      have hb := (Classical.choose_spec (h2 b) hb).2
      have e' : Classical.choose (h2 a) = Classical.choose (h2 b) := e
      rw [e'] at ha
      rw [Bool.and_eq_true, beq_iff_eq] at ha hb
      omega)
    omega
  · exact q
theorem pSlot_6 {A : Nat → Nat} (h : A 0 < 6) : aLists (A 0) ≤ 6 := (xlist_at _ h).2
theorem pAtt_ok {A : Nat → Nat} {i : Nat} (hO : aOK A) (hi : i < 10) : aOK (pAtt A i).1 := by
  have h6 := pSlot_6 (hO.1 0 (by omega))
  have hn := aNm_free A 0
  unfold pAtt
  split
  · have hx : 26 * i + pName A ≤ 260 := by unfold pName; omega
    exact aOK_ent hO (by omega) hx
  · exact aOK_wipe hO hi (by omega)
section XP
variable {M : xM} {c : Nat} {rf : Nat → Bool} {T : aT}
theorem r_attach {i : Nat} {Q : Int32 → xM → Prop} (hC : CV M (c + 1) T.1) (hO : aOK T.1) (hi : i < 10) (h1 : (pAtt T.1 i).2 < 6 → ∀ M', CV M' (c + 1) (pAtt T.1 i).1 → sOff (c + 1) (c + 1 + 6) M M' → Q (nI (pAtt T.1 i).2) M') (h0 : (pAtt T.1 i).2 = 6 → ∀ M', CV M' (c + 1) (pAtt T.1 i).1 → sOff (c + 1) (c + 1 + 6) M M' → Q (-9) M') : wX0_attach M c (nI i) Q := by
  have h6 := pSlot_6 (hO.1 0 (by omega))
  have hn := aNm_free T.1 0
  unfold wX0_attach wX0_attach_44
  refine r_emptySlotOf (i := 0) hC hO (by omega) ?_
  have es : fa_first (fun s => T.1 (60 + (6 * 0 + s)) == 260) (aLists (T.1 0)) = pSlot T.1 := by
    unfold pSlot
    congr 1
    funext s
    rw [show 6 * 0 + s = s by omega]
  rw [es]
  by_cases h : pSlot T.1 < aLists (T.1 0)
  · rw [if_pos h]
    have ea : pAtt T.1 i = (aUp T.1 (60 + pSlot T.1) (26 * i + pName T.1), pSlot T.1) := by unfold pAtt; rw [if_pos h]
    rw [ea] at h1 h0
    refine ⟨fun _ => r_freeNameIn (i := 0) hC hO (by omega) (r_enter (i := 0) hC (by omega) (by omega) (by omega) hi fun M' c' s' => ?_), fun z => absurd z (by rw [show (-9 : Int32) = -nI 9 from rfl, z_neq (by omega) (by omega) (by omega)]; exact id)⟩
    refine h1 (show pSlot T.1 < 6 by omega) M' ?_ s'
    rw [show 6 * 0 + pSlot T.1 = pSlot T.1 by omega] at c'
    exact c'
  · rw [if_neg h]
    have ea : pAtt T.1 i = (aWipe T.1 i 0, 6) := by unfold pAtt; rw [if_neg h]
    rw [ea] at h1 h0
    exact ⟨fun z => absurd rfl z, fun _ => r_wipe hC hi fun M' c' s' => h0 rfl M' c' s'⟩
theorem r_cutOff {i : Nat} {Q : xM → Prop} (hc : xChk c) (hr : rfOK rf) (h : CK M c rf T) (hi : i < 10) (hl : T.2.length < 180) (hq : ∀ M', CK M' c rf (pCut T i) → sOff c (c + 11) M M' → Q M') : wX0_cutOff M c (nI i) Q := by
  unfold wX0_cutOff wX0_cutOff_40
  refine r_placeOfEntryTo (xChk_v hc) h.1 h.2.1 (by omega) ?_
  unfold pCut at hq
  by_cases hp : fa_first (aEnt T.1 i) 60 < 60
  · rw [if_pos hp] at hq
    rw [if_pos hp]
    refine ⟨fun z => absurd z (by rw [show (-9 : Int32) = -nI 9 from rfl, z_neq (by omega) (by omega) (by omega)]; exact id), fun _ => ?_⟩
    rw [zl 6, z_div (by omega) (by omega) (by omega)]
    refine r_asks (r := 9) h (by omega) hl (fun q => by rw [rf_no hr (by omega)] at q; cases q) (fun _ M2 k2 s2 _ _ => ⟨fun q => absurd q (by decide), fun _ => ⟨by rw [z_in (by omega) (by omega)]; exact hp, ?_⟩⟩)
    rw [z_cl (by omega)]
    have ce := CV_ent (x := 260) k2.1 hp
    exact hq _ (CK_vol k2 ce (aOK_ent k2.2.1 hp (by omega)) (sOff_up (by omega))) (sOff_tr s2 (sOff_up (by omega)))
  · rw [if_neg hp] at hq
    rw [if_neg hp]
    exact ⟨fun _ => hq M h sOff_rf, fun z => absurd rfl z⟩
theorem pCut_len (T : aT) (i : Nat) : (pCut T i).2.length ≤ T.2.length + 1 := by
  unfold pCut
  split <;> simp
theorem pConn_len (T : aT) : (pConn T).2.length ≤ T.2.length + 2 := by
  unfold pConn pJoin
  split
  · split
    · simp
    · have := pCut_len T (pPick T.1)
      simp only [List.length_append, List.length_singleton]
      omega
  · omega
theorem pConn_none {T : aT} (h : anyN (pApart T.1) 10 = false) : pConn T = T := by
  unfold pConn
  rw [if_neg (by rw [h]; decide)]
theorem pConns_none {T : aT} (h : anyN (pApart T.1) 10 = false) : ∀ n, pConns T n = T
  | 0 => rfl
  | n + 1 => by rw [pConns, pConn_none h]; exact pConns_none h n
theorem fa_at {p : Nat → Bool} {n : Nat} (h : anyN p n = true) : fa_first p n < n ∧ p (fa_first p n) = true := by
  obtain ⟨k, hk, hp⟩ := anyN_iff.mp h
  rcases Nat.lt_or_ge (fa_first p n) n with q | q
  · exact ⟨q, fa_first_yes p n q⟩
  · have := fa_first_no p n k (by omega)
    rw [hp] at this; cases this
theorem pPick_lt {A : Nat → Nat} (h : anyN (pApart A) 10 = true) : pPick A < 10 := by
  unfold pPick
  split
  · rename_i h2; exact (fa_at h2).1
  · exact (fa_at h).1
theorem s_ntzb {M : xM} {Q : Int32 → xM → Prop} {p : Nat → Bool} {n : Nat} (hn : n ≤ 31) (h : anyN p n = true) (hq : Q (nI (fa_first p n)) M) : wJ6_numberOfTrailingZeros_0f7a4 M (bs p n) Q := by
  obtain ⟨h1, h2⟩ := fa_at h
  refine s_ntz (p := fa_first p n) (by omega) ?_ (fun k hk => ?_) hq
  · rw [bs_bt p (by omega) (by omega), h2]; simp [h1]
  · rw [bs_bt p (by omega) (by omega), fa_first_no p n k hk]; simp
theorem bs_any {p : Nat → Bool} {n : Nat} (hn : n ≤ 32) : bs p n = 0 ↔ anyN p n = false := by rw [bs_zero hn, anyN_not]
theorem r_join {i : Nat} {Q : xM → Int32 → Prop} {r : Nat} (hr : rfOK rf) (h : CK M c rf T) (hi : i < 10) (hl : T.2.length < 180) (hq : ∀ M', CK M' c rf (pJoin T i) → sOff c (c + 11) M M' → Q M' (nI r + 1)) : wX0_mendConnections_71 c (fun _ => True) Q M (nI r) (nI i) := by
  unfold wX0_mendConnections_71 wX0_mendConnections_94
  refine r_attach h.1 h.2.1 hi (fun h6 M1 c1 s1 => ?_) (fun h6 M1 c1 s1 => ?_)
  · have k1 := CK_vol h c1 (pAtt_ok h.2.1 hi) s1
    refine ⟨fun _ => ?_, fun z => absurd z (by rw [show (-9 : Int32) = -nI 9 from rfl, z_neq (by omega) (by omega) (by omega)]; exact id)⟩
    have e : (if (0 : Int32) < nI (pAtt T.1 i).2 then nI (pAtt T.1 i).2 else 0) = nI (pAtt T.1 i).2 := by
      rw [zl 0]
      split
      · rfl
      · rename_i hz
        rw [z_lt (by omega) (by omega)] at hz
        rw [show (pAtt T.1 i).2 = 0 by omega]
    rw [e]
    refine r_asks (r := 10) k1 (by omega) hl (fun q => by rw [rf_no hr (by omega)] at q; cases q) (fun _ M2 k2 s2 _ _ => hq M2 ?_ (sOff_tr (fun p hp => s1 p (by omega)) s2))
    unfold pJoin
    rw [if_neg (by omega), if_neg (by omega)]
    exact k2
  · have k1 := CK_vol h c1 (pAtt_ok h.2.1 hi) s1
    refine ⟨fun z => absurd rfl z, fun _ => ?_⟩
    refine r_asks (r := 11) (p := 0) k1 (by omega) hl (fun q => by rw [rf_no hr (by omega)] at q; cases q) (fun _ M2 k2 s2 _ _ => hq M2 ?_ (sOff_tr (fun p hp => s1 p (by omega)) s2))
    unfold pJoin
    rw [if_pos h6, if_pos h6]
    exact k2
theorem r_mendConnections {R : aT} {Q : xM → Prop} (hc : xChk c) (hr : rfOK rf) (hR : R.2.length ≤ 91) (h : CK M c rf R) (hq : ∀ M', CK M' c rf (pConns R 10) → sOff c (c + 11) M M' → Q M') : wX0_mendConnections M c Q := by
  unfold wX0_mendConnections
  have key := z_loop (P := fun n r => ∀ M' T, CK M' c rf T → T.2.length ≤ 91 + 2 * r → pConns T (10 - r) = pConns R 10 → sOff c (c + 11) M M' → lX0_mendConnections_2 c Q n M' (nI r)) 10 (fun n M' T k1 hl e1 s1 => ?_) (fun n r hr10 hn M' T k1 hl e1 s1 => ?_)
  · obtain ⟨n, hn⟩ := key
    exact ⟨n, hn M R h (by omega) rfl sOff_rf⟩
  · unfold lX0_mendConnections_2
    simp (disch := omega) only [zl 10, z_le, Nat.le_refl, true_implies, not_true, false_implies, and_true]
    refine hq M' ?_ s1
    rw [← e1]; exact k1
  · unfold lX0_mendConnections_2 wX0_mendConnections_56
    dsimp only
    simp (disch := omega) only [zl 10, z_le]
    refine ⟨fun z => absurd z (by omega), fun _ => r_directories (xChk_v hc) k1.1 k1.2.1 (r_reachedFrom (i := 0) k1.1 k1.2.1 (by omega) ?_)⟩
    have ea : bs (aDir T.1) 10 &&& (bs (aS T.1 0 10) 10 ^^^ (-1 : Int32)) = bs (pApart T.1) 10 := bs_andn _ _ (by omega)
    rw [ea]
    refine ⟨fun z => ?_, fun z => ?_⟩
    · have hap : anyN (pApart T.1) 10 = true := by
        cases hh : anyN (pApart T.1) 10 with
        | true => rfl
        | false => exact absurd ((bs_any (by omega)).mpr hh) z
      have hpk := pPick_lt hap
      rw [show (1023 : Int32) = bs (fun _ => true) 10 by decide]
      refine r_enteredByThese k1.1 k1.2.1 ?_
      have el : bs (pApart T.1) 10 &&& (bs (aNx T.1 (fun _ => true)) 10 ^^^ (-1 : Int32)) = bs (pAlone T.1) 10 := bs_andn _ _ (by omega)
      rw [el]
      have nx : ∀ T2 : aT, pConn T = pJoin T2 (pPick T.1) → T2.2.length ≤ T.2.length + 1 → ∀ M2, CK M2 c rf T2 → sOff c (c + 11) M M2 → wX0_mendConnections_71 c Q (lX0_mendConnections_2 c Q n) M2 (nI r) (nI (pPick T.1)) := by
        intro T2 e2 l2 M2 k2 s2
        refine r_join (Q := lX0_mendConnections_2 c Q n) hr k2 hpk (by omega) (fun M3 k3 s3 => ?_)
        rw [show nI r + 1 = nI (r + 1) from nI_1 r]
        rw [← e2] at k3
        refine hn M3 (pConn T) k3 ?_ ?_ (sOff_tr s2 s3)
        · have := pConn_len T; omega
        · rw [← e1, show 10 - r = (10 - (r + 1)) + 1 by omega]; rfl
      cases hal : anyN (pAlone T.1) 10 with
      | false =>
        have z2 : bs (pAlone T.1) 10 = 0 := (bs_any (by omega)).mpr hal
        have epk : pPick T.1 = fa_first (pApart T.1) 10 := by unfold pPick; rw [if_neg (by rw [hal]; decide)]
        rw [z2]
        refine ⟨fun _ => ?_, fun z3 => absurd rfl z3⟩
        refine s_ntzb (by omega) hap ⟨fun z3 => absurd rfl z3, fun _ => ?_⟩
        rw [← epk]
        refine r_cutOff hc hr k1 hpk (by omega) (fun M2 k2 s2 => ?_)
        refine nx (pCut T (pPick T.1)) ?_ (pCut_len _ _) M2 k2 (sOff_tr s1 s2)
        unfold pConn
        rw [if_pos hap, if_neg (by rw [hal]; decide)]
      | true =>
        have z2 : ¬ bs (pAlone T.1) 10 = 0 := fun q => by rw [bs_any (by omega), hal] at q; cases q
        have epk : pPick T.1 = fa_first (pAlone T.1) 10 := by unfold pPick; rw [if_pos hal]
        refine ⟨fun z3 => absurd z3 z2, fun _ => ?_⟩
        refine s_ntzb (by omega) hal ⟨fun _ => ?_, fun z3 => absurd z3 z2⟩
        rw [← epk]
        refine nx T ?_ (by omega) M' k1 s1
        unfold pConn
        rw [if_pos hap, if_pos hal]
    · have hap : anyN (pApart T.1) 10 = false := (bs_any (by omega)).mp z
      refine hq M' ?_ s1
      rw [← e1, pConns_none hap]
      exact k1
end XP
