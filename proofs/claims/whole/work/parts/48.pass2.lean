/-! the class's first pass from its begin; its second -/
theorem pEnt_len (T : aT) (k : Nat) : (pEnt T k).2.length ≤ T.2.length + 1 := by
  unfold pEnt
  repeat' split
  all_goals simp
theorem pEnt_old (T : aT) {k q : Nat} (h : q ≠ 60 + k) : (pEnt T k).1 q = T.1 q := by
  unfold pEnt
  repeat' split
  all_goals first
    | rfl
    | (simp only [aUp]; rw [if_neg h])
theorem bs_nm {A : Nat → Nat} {k : Nat} (h : ¬ A (60 + k) = 260) : bs (fun nm => aFull A k && (A (60 + k) % 26 == nm)) 26 = (1 : Int32) <<< (nI (A (60 + k) % 26) &&& 31) := by
  rw [bs_one (n := 26) (by omega) (Nat.mod_lt _ (by omega))]
  refine bs_cong fun nm _ => ?_
  unfold aFull
  rw [Bool.eq_iff_iff, Bool.and_eq_true, beq_iff_eq, decide_eq_true_eq, Bool.not_eq_true', beq_eq_false_iff_ne]
  exact ⟨fun q => q.2.symm, fun q => ⟨h, q.symm⟩⟩
theorem z_rem2 (a d : Nat) : nI a - nI (a / d * d) = nI (a % d) := by
  rw [z_sub (Nat.div_mul_le_self a d)]
  congr 1
  have := Nat.div_add_mod a d
  rw [Nat.mul_comm] at this
  omega
theorem z_rem3 (a d : Nat) : nI a - nI (a / d) * nI d = nI (a % d) := by rw [z_mul, z_rem2]
theorem rf_no {rf : Nat → Bool} (hr : rfOK rf) {r : Nat} (h : ¬ (r = 4 ∨ r = 12 ∨ r = 14 ∨ r = 15 ∨ r = 16)) : rf r = false := by
  cases e : rf r with
  | false => rfl
  | true => exact absurd (hr r e) h
section XP
variable {M : xM} {c : Nat} {rf : Nat → Bool} {T : aT}
theorem r_mendPointers {A : Nat → Nat} {Q : xM → Prop} (hc : xChk c) (hr : rfOK rf) (h : CK M c rf (A, [])) (hq : ∀ M', CK M' c rf (pChk1 rf A) → sOff c (c + 11) M M' → Q M') : wX0_mendPointers M c Q := by
  unfold wX0_mendPointers
  refine r_isDirectory (i := 0) h.1 h.2.1 (by omega) ⟨fun z => ?_, fun z => ?_⟩
  · refine r_mendPointers_39 hc hr ?_ hq
    have e : aDir A 0 = true := by
      cases hd : aDir A 0 with
      | true => rfl
      | false => exact absurd ((bI_0 _).mpr hd) z
    unfold pRoot
    rw [if_pos e]
    exact h
  · have e : aDir A 0 = false := (bI_0 _).mp z
    refine r_asks (r := 1) (w := 0) (p := 0) h (by omega) (by simp) (fun q => by rw [rf_no hr (by omega)] at q; cases q) (fun _ M15 k15 s15 _ _ => ⟨fun q => absurd q (by decide), fun _ => ?_⟩)
    refine r_wipe (i := 0) k15.1 (by omega) (fun M26 c26 s26 => ⟨(z_in (a := 0) (by omega) (by omega)).mpr (by omega), ?_⟩)
    have c2 := CV_kind (i := 0) (x := 2) c26 (by omega)
    have ck : CK (xup M26 (c + 2) 0 (nI 2)) c rf (aWipe A 0 2, [(1, 0, 0)]) := CK_vol k15 (CV_cong c2 (fun q _ => by
      unfold aUp aWipe
      split
      · rfl
      · rfl)) (aOK_wipe h.2.1 (by omega) (by omega)) (sOff_tr s26 (sOff_up (by omega)))
    refine r_mendPointers_39 hc hr ?_ (fun M' k' s' => hq M' k' (sOff_tr (sOff_tr (sOff_tr s15 (fun p hp => s26 p (by omega))) (sOff_up (by omega))) s'))
    unfold pRoot
    rw [if_neg (by rw [e]; decide)]
    exact ck
def pFe (A : Nat → Nat) (k : Nat) : Nat := pFault A k
theorem r_faultOfEntry {i s : Nat} {A : Nat → Nat} {Q : Int32 → xM → Prop} (hC : CV M (c + 1) A) (hO : aOK A) (hi : i < 10) (hs : s < 6) (he : ¬ A (60 + (6 * i + s)) = 260) (hq : Q (nI (pFault A (6 * i + s))) M) : wX0_faultOfEntry M c (nI i) (nI s) (bs (fun nm => anyN (fun q => aFull A (6 * i + q) && (A (60 + (6 * i + q)) % 26 == nm)) s) 26) (bs (fun t => anyN (aEnt A t) (6 * i + s)) 10) Q := by
  have e1 : (6 * i + s) / 6 = i := by omega
  have e2 : (6 * i + s) % 6 = s := by omega
  unfold pFault at hq
  rw [e1, e2] at hq
  have h1 : M (c + 6) (6 * i + s) = eC (A (60 + (6 * i + s))) := hC.2.2.2.2.1 (6 * i + s) (by omega)
  rw [eC_some he] at h1
  have h2 := hO.2.2.2.2.1 (6 * i + s) (by omega)
  have h3 : M (c + 2) i = nI (A i) := hC.1 i hi
  have h4 := hO.1 i hi
  obtain ⟨h5, h6⟩ := xlist_at _ h4
  have h7 : M (c + 2) (A (60 + (6 * i + s)) / 26) = nI (A (A (60 + (6 * i + s)) / 26)) := hC.1 _ (by omega)
  have h8 := hO.1 (A (60 + (6 * i + s)) / 26) (by omega)
  generalize A (60 + (6 * i + s)) = e at hq h1 h2 h7 h8 he
  unfold wX0_faultOfEntry wX0_faultOfEntry_60 wX0_faultOfEntry_105 wX0_faultOfEntry_106
  simp (disch := omega) only [zl 6, zl 60, zl 10, zl 26, z_mul, z_add, z_in, z_cl, h1, h3, h5, z_lt, z_div, z_rem2, hi, h4, true_and, h7]
  rw [bs_test _ (by omega) (show e % 26 < 26 by omega), bs_test _ (by omega) (show e / 26 < 10 by omega)]
  refine ⟨by omega, fun z1 => ?_, fun z1 => ?_⟩
  · rw [if_neg (by omega)] at hq
    refine ⟨fun z2 => ?_, fun z2 => ⟨by omega, fun z3 => ?_, fun z3 => ?_⟩⟩
    · have : e / 26 = 0 := (z_eq (b := 0) (by omega) (by omega)).mp z2
      rw [if_pos (Or.inl this)] at hq; exact hq
    · have z2' : ¬ e / 26 = 0 := fun q => z2 ((z_eq (b := 0) (by omega) (by omega)).mpr q)
      have z3' : ¬ A (e / 26) = 0 := fun q => z3 ((z_eq (b := 0) (by omega) (by omega)).mpr q)
      rw [if_neg (fun q => q.elim z2' z3')] at hq
      cases hn : anyN (fun q => aFull A (6 * i + q) && (A (60 + (6 * i + q)) % 26 == e % 26)) s with
      | true =>
        rw [hn, if_pos rfl] at hq
        exact ⟨fun z4 => absurd z4 (by decide), fun _ => hq⟩
      | false =>
        rw [hn, if_neg (by decide)] at hq
        refine ⟨fun _ => r_isDirectory hC hO (by omega) ⟨fun z5 => ?_, fun z5 => ?_⟩, fun z4 => absurd rfl z4⟩
        · rw [if_neg (fun q => by rw [(bI_0 _).mp z5] at q; exact absurd q.1 (by decide))] at hq
          exact hq
        · have hd : aDir A (e / 26) = true := by
            cases hd : aDir A (e / 26) with
            | true => rfl
            | false => exact absurd ((bI_0 _).mpr hd) z5
          cases hl : anyN (aEnt A (e / 26)) (6 * i + s) with
          | true =>
            rw [hl, if_pos ⟨hd, rfl⟩] at hq
            exact ⟨fun z6 => absurd z6 (by decide), fun _ => hq⟩
          | false =>
            rw [hl, if_neg (fun q => absurd q.2 (by decide))] at hq
            exact ⟨fun _ => hq, fun z6 => absurd rfl z6⟩
    · have z3' : A (e / 26) = 0 := (z_eq (b := 0) (by omega) (by omega)).mp z3
      rw [if_pos (Or.inr z3')] at hq; exact hq
  · rw [if_pos (by omega)] at hq; exact hq
theorem pFault_lt (A : Nat → Nat) (k : Nat) : pFault A k < 9 ∧ (pFault A k ≠ 0 → 5 ≤ pFault A k) := by
  unfold pFault
  repeat' split
  all_goals omega
theorem r_mendEntries {A : Nat → Nat} {R : aT} {Q : xM → Prop} (hc : xChk c) (hr : rfOK rf) (hR : R.2.length ≤ 31) (h : CK M c rf R) (hq : ∀ M', CK M' c rf (pIter pEnt R 60) → sOff c (c + 11) M M' → Q M') : wX0_mendEntries M c Q := by
  have hlen : ∀ n, (pIter pEnt R n).2.length ≤ 31 + n := fun n => by
    have h1 := pIter_len pEnt_len R n
    omega
  unfold wX0_mendEntries
  have key := z_loop (P := fun n i => ∀ M', CK M' c rf (pIter pEnt R (6 * i)) → sOff c (c + 11) M M' → lX0_mendEntries_4 c Q n M' (bs (fun t => anyN (aEnt (pIter pEnt R (6 * i)).1 t) (6 * i)) 10) (nI i)) 10 (fun n M' k1 s1 => ?_) (fun n i hi hn M' k1 s1 => ?_)
  · obtain ⟨n, hn⟩ := key
    refine ⟨n, ?_⟩
    have e0 : bs (fun t => anyN (aEnt (pIter pEnt R (6 * 0)).1 t) (6 * 0)) 10 = 0 := bs_none
    have := hn M h sOff_rf
    rw [e0] at this
    exact this
  · unfold lX0_mendEntries_4
    simp (disch := omega) only [zl 10, z_le, Nat.le_refl, true_implies, not_true, false_implies, and_true]
    exact hq M' k1 s1
  · unfold lX0_mendEntries_4
    dsimp only
    simp (disch := omega) only [zl 10, z_le]
    refine ⟨fun z => absurd z (by omega), fun _ => ?_⟩
    have key := z_loop (P := fun m s => ∀ M'', CK M'' c rf (pIter pEnt R (6 * i + s)) → sOff c (c + 11) M M'' → lX0_mendEntries_15 c Q (lX0_mendEntries_4 c Q n) m M'' (bs (fun t => anyN (aEnt (pIter pEnt R (6 * i + s)).1 t) (6 * i + s)) 10) (nI i) (bs (fun nm => anyN (fun q => aFull (pIter pEnt R (6 * i + s)).1 (6 * i + q) && ((pIter pEnt R (6 * i + s)).1 (60 + (6 * i + q)) % 26 == nm)) s) 26) (nI s)) 6 (fun m M'' k2 s2 => ?_) (fun m s hs hm M'' k2 s2 => ?_)
    · obtain ⟨m, hm⟩ := key
      refine ⟨m, ?_⟩
      have e0 : bs (fun nm => anyN (fun q => aFull (pIter pEnt R (6 * i + 0)).1 (6 * i + q) && ((pIter pEnt R (6 * i + 0)).1 (60 + (6 * i + q)) % 26 == nm)) 0) 26 = 0 := bs_none
      have := hm M' k1 s1
      rw [e0] at this
      exact this
    · unfold lX0_mendEntries_15
      simp (disch := omega) only [zl 6, zl 1, z_le, Nat.le_refl, true_implies, not_true, false_implies, and_true, z_add]
      exact hn M'' k2 s2
    · have hstep : pIter pEnt R (6 * i + (s + 1)) = pEnt (pIter pEnt R (6 * i + s)) (6 * i + s) := rfl
      have hl := hlen (6 * i + s)
      rw [hstep] at hm
      generalize hT : pIter pEnt R (6 * i + s) = T at k2 hl hm ⊢
      have e3 : (6 * i + s) / 6 = i := by omega
      have e4 : (6 * i + s) % 6 = s := by omega
      have o1 : ∀ t, anyN (aEnt (pEnt T (6 * i + s)).1 t) (6 * i + s) = anyN (aEnt T.1 t) (6 * i + s) := fun t => anyN_cong fun q hq => by
        unfold aEnt; rw [pEnt_old T (by omega)]
      have o2 : ∀ nm, anyN (fun q => aFull (pEnt T (6 * i + s)).1 (6 * i + q) && ((pEnt T (6 * i + s)).1 (60 + (6 * i + q)) % 26 == nm)) s = anyN (fun q => aFull T.1 (6 * i + q) && (T.1 (60 + (6 * i + q)) % 26 == nm)) s := fun nm => anyN_cong fun q hq => by
        unfold aFull; rw [pEnt_old T (by omega)]
      -- the end of a turn that leaves no entry
      have finE : (pEnt T (6 * i + s)).1 (60 + (6 * i + s)) = 260 → ∀ M3, CK M3 c rf (pEnt T (6 * i + s)) → sOff c (c + 11) M M3 → lX0_mendEntries_15 c Q (lX0_mendEntries_4 c Q n) m M3 (bs (fun t => anyN (aEnt T.1 t) (6 * i + s)) 10) (nI i) (bs (fun nm => anyN (fun q => aFull T.1 (6 * i + q) && (T.1 (60 + (6 * i + q)) % 26 == nm)) s) 26) (nI s + 1) := by
        intro h260 M3 k3 s3
        have q1 : bs (fun t => anyN (aEnt T.1 t) (6 * i + s)) 10 = bs (fun t => anyN (aEnt (pEnt T (6 * i + s)).1 t) (6 * i + (s + 1))) 10 := bs_cong fun t _ => by
          show _ = (anyN (aEnt (pEnt T (6 * i + s)).1 t) (6 * i + s) || aEnt (pEnt T (6 * i + s)).1 t (6 * i + s))
          rw [o1]; unfold aEnt; rw [h260]; simp
        have q2 : bs (fun nm => anyN (fun q => aFull T.1 (6 * i + q) && (T.1 (60 + (6 * i + q)) % 26 == nm)) s) 26 = bs (fun nm => anyN (fun q => aFull (pEnt T (6 * i + s)).1 (6 * i + q) && ((pEnt T (6 * i + s)).1 (60 + (6 * i + q)) % 26 == nm)) (s + 1)) 26 := bs_cong fun nm _ => by
          rw [anyN, o2]; unfold aFull; rw [h260]; simp
        rw [q1, q2, show nI s + 1 = nI (s + 1) from nI_1 s]
        exact hm M3 k3 s3
      unfold lX0_mendEntries_15 wX0_mendEntries_59 wX0_mendEntries_98 wX0_mendEntries_125
      have hv : M'' (c + 6) (6 * i + s) = eC (T.1 (60 + (6 * i + s))) := k2.1.2.2.2.2.1 (6 * i + s) (by omega)
      have bnd := k2.2.1.2.2.2.2.1 (6 * i + s) (by omega)
      dsimp only
      simp (disch := omega) only [zl 6, z_le, z_mul, z_add, z_in, z_cl, hv]
      refine ⟨fun z => absurd z (by omega), fun _ => ⟨by omega, fun z => ?_, fun z => ?_⟩⟩
      · have he : ¬ T.1 (60 + (6 * i + s)) = 260 := fun q => z ((eC_m9 bnd).mpr q)
        rw [eC_some he]
        refine r_faultOfEntry k2.1 k2.2.1 hi hs he ?_
        obtain ⟨f1, f2⟩ := pFault_lt T.1 (6 * i + s)
        by_cases hf : pFault T.1 (6 * i + s) = 0
        · have hp0 : pEnt T (6 * i + s) = T := by unfold pEnt; rw [if_neg he, if_pos hf]
          rw [hf]
          refine ⟨fun _ => ⟨fun z2 => absurd z2 (by rw [show (-9 : Int32) = -nI 9 from rfl, z_neq (by omega) (by omega) (by omega)]; exact id), fun _ => ?_⟩, fun z2 => absurd rfl z2⟩
          rw [hp0] at hm
          rw [zl 26, z_div (by omega) (by omega) (by omega), z_rem3, ← bs_en he bnd, ← bs_nm he, bs_or _ _ (by omega), bs_or _ _ (by omega), show nI s + 1 = nI (s + 1) from nI_1 s]
          exact hm M'' k2 s2
        · refine ⟨fun z2 => absurd z2 (by rw [zl 0, z_eq (by omega) (by omega)]; exact hf), fun _ => ?_⟩
          have hpp : pEnt T (6 * i + s) = (aUp T.1 (60 + (6 * i + s)) 260, T.2 ++ [(pFault T.1 (6 * i + s), i, s)]) := by unfold pEnt; rw [if_neg he, if_neg hf, e3, e4]
          refine r_asks k2 (by omega) (by omega) (fun q => by rw [rf_no hr (by have := f2 hf; omega)] at q; cases q) (fun _ M72 k72 s72 _ _ => ⟨fun q => absurd q (by decide), fun _ => ⟨by omega, ?_⟩⟩)
          refine finE ?_ _ ?_ (sOff_tr (sOff_tr s2 s72) (sOff_up (by omega)))
          · rw [hpp]; simp [aUp]
          · rw [hpp]
            have ce := CV_ent (x := 260) k72.1 (show 6 * i + s < 60 by omega)
            exact CK_vol k72 ce (aOK_ent k72.2.1 (by omega) (by omega)) (sOff_up (by omega))
      · have he : T.1 (60 + (6 * i + s)) = 260 := (eC_m9 bnd).mp z
        have hp0 : pEnt T (6 * i + s) = T := by unfold pEnt; rw [if_pos he]
        refine ⟨fun _ => ⟨fun _ => ?_, fun z2 => absurd z z2⟩, fun z2 => absurd trivial z2⟩
        exact finE (by rw [hp0]; exact he) M'' (by rw [hp0]; exact k2) s2
end XP
