/-! the reference: pass 3 -/
theorem nI_m1 (i : Nat) : nI (i + 1) + (-1) = nI i := by
  rw [← nI_1, Int32.add_assoc, show (1 : Int32) + (-1) = 0 from by decide, Int32.add_zero]
def pRes (A : Nat → Nat) : Int32 := if anyN (pApart A) 10 = true then nI (pPick A) else -1
section RC
variable {M : xM} {rf : Nat → Bool} {T : aT}
theorem reach_dir {A : Nat → Nat} {S : Nat → Bool} (hJ : aJ A) (s0 : S 0 = true) (sl : ∀ C : Nat → Bool, C 0 = true → gC A (fun t => !true || aDir A t) C → ∀ t, t < 10 → S t = true → C t = true) (sc : gC A (fun t => !true || aDir A t) S) {t : Nat} (ht : t < 10) (hd : aDir A t = true) : S t = aS A 0 10 t := by
  rw [Bool.eq_iff_iff]
  constructor
  · intro h
    have := sl (fun t => aS A 0 10 t && aDir A t) (by rw [aS_0, hJ.2.1]; rfl) (fun k t hk h1 h2 h3 => by
      have h3 : aDir A t = true := h3
      have h1 : (aS A 0 10 (k / 6) && aDir A (k / 6)) = true := h1
      show (aS A 0 10 t && aDir A t) = true
      rw [Bool.and_eq_true] at h1 ⊢
      exact ⟨aS_to (by omega) (aEnt_lt hJ.1 hk h2) hk h1.1 h2, h3⟩) t ht h
    have this : (aS A 0 10 t && aDir A t) = true := this
    rw [Bool.and_eq_true] at this; exact this.1
  · intro h
    have := aS_in (A := A) (i := 0) (C := fun t => aDir A t = true → S t = true) (fun _ => s0) (fun k t hk hc he hd => by
      exact sc k t hk (hc (hJ.2.2 k hk (aEnt_full he))) he (by show (!true || aDir A t) = true; rw [hd]; rfl)) 10 t h
    exact this hd
theorem lone_77 {Q : Int32 → xM → Prop} {k12 : xM → Int32 → Int32 → Int32 → Prop} {a1 a2 a3 : Int32} {a b c : Bool} (h : k12 M a1 (if (a && (b || !c)) = true then a3 else a2) (a3 + (-1))) : wX4_lone_77 Q k12 M a1 a2 a3 (bI a) (bI b) (bI c) := by
  unfold wX4_lone_77 wX4_lone_98 wX4_lone_94 wX4_lone_99
  cases a <;> cases b <;> cases c <;> repeat' (first | exact h | constructor | (intro z; first | exact absurd z (by decide) | exact absurd rfl z | clear z))
def loneI (A : Nat → Nat) (m f : Nat) : Prop := (f = 10 ∧ ∀ t, 10 - m ≤ t → t < 10 → pApart A t = false) ∨ (f < 10 ∧ 10 - m ≤ f ∧ pAlone A f = true ∧ ∀ t, 10 - m ≤ t → t < f → pAlone A t = false) ∨ (f < 10 ∧ 10 - m ≤ f ∧ pApart A f = true ∧ pAlone A f = false ∧ (∀ t, 10 - m ≤ t → t < 10 → pAlone A t = false) ∧ ∀ t, 10 - m ≤ t → t < f → pApart A t = false)
theorem pAlone_ap {A : Nat → Nat} {t : Nat} (h : pApart A t = false) : pAlone A t = false := by unfold pAlone; rw [h]; rfl
theorem pAlone_c {A : Nat → Nat} {t : Nat} (h : pApart A t = true) : pAlone A t = decide (fb_ct (aEnt A t) 60 = 0) := by
  unfold pAlone
  rw [h, aNx_all, Bool.true_and]
  cases z : anyN (aEnt A t) 60 with
  | false => rw [decide_eq_true (ct_0.mpr z)]; rfl
  | true => rw [decide_eq_false (fun q => by rw [ct_0] at q; rw [q] at z; cases z)]; rfl
theorem loneI_s {A : Nat → Nat} {m f : Nat} (hm : m < 10) (h : loneI A m f) : loneI A (m + 1) (if (pApart A (9 - m) && (pAlone A (9 - m) || !(decide (f < 10) && pAlone A f))) = true then 9 - m else f) := by
  have split : ∀ t, 10 - (m + 1) ≤ t → t = 9 - m ∨ 10 - m ≤ t := fun t ht => by omega
  cases hap : pApart A (9 - m) with
  | false =>
    have hal := pAlone_ap hap
    rw [if_neg (by simp)]
    rcases h with ⟨h1, h2⟩ | ⟨h1, h2, h3, h4⟩ | ⟨h1, h2, h3, h4, h5, h6⟩
    · refine Or.inl ⟨h1, fun t q1 q2 => ?_⟩
      rcases split t q1 with e | e
      · rw [e]; exact hap
      · exact h2 t e q2
    · refine Or.inr (Or.inl ⟨h1, by omega, h3, fun t q1 q2 => ?_⟩)
      rcases split t q1 with e | e
      · rw [e]; exact hal
      · exact h4 t e q2
    · refine Or.inr (Or.inr ⟨h1, by omega, h3, h4, fun t q1 q2 => ?_, fun t q1 q2 => ?_⟩)
      · rcases split t q1 with e | e
        · rw [e]; exact hal
        · exact h5 t e q2
      · rcases split t q1 with e | e
        · rw [e]; exact hap
        · exact h6 t e q2
  | true =>
    cases hal : pAlone A (9 - m) with
    | true =>
      rw [if_pos (by simp)]
      exact Or.inr (Or.inl ⟨by omega, by omega, hal, fun t q1 q2 => absurd q2 (by omega)⟩)
    | false =>
      rcases h with ⟨h1, h2⟩ | ⟨h1, h2, h3, h4⟩ | ⟨h1, h2, h3, h4, h5, h6⟩
      · rw [if_pos (by simp [h1])]
        refine Or.inr (Or.inr ⟨by omega, by omega, hap, hal, fun t q1 q2 => ?_, fun t q1 q2 => absurd q2 (by omega)⟩)
        rcases split t q1 with e | e
        · rw [e]; exact hal
        · exact pAlone_ap (h2 t e q2)
      · rw [if_neg (by simp [h1, h3])]
        refine Or.inr (Or.inl ⟨h1, by omega, h3, fun t q1 q2 => ?_⟩)
        rcases split t q1 with e | e
        · rw [e]; exact hal
        · exact h4 t e q2
      · rw [if_pos (by simp [h4])]
        refine Or.inr (Or.inr ⟨by omega, by omega, hap, hal, fun t q1 q2 => ?_, fun t q1 q2 => absurd q2 (by omega)⟩)
        rcases split t q1 with e | e
        · rw [e]; exact hal
        · exact h5 t e q2
theorem loneI_e {A : Nat → Nat} {f : Nat} (h : loneI A 10 f) : (if f = 10 then (-1 : Int32) else nI f) = pRes A := by
  unfold pRes
  rcases h with ⟨h1, h2⟩ | ⟨h1, h2, h3, h4⟩ | ⟨h1, h2, h3, h4, h5, h6⟩
  · have : anyN (pApart A) 10 = false := anyN_not.mpr fun t ht => h2 t (by omega) ht
    rw [if_pos h1, if_neg (by rw [this]; decide)]
  · have a1 : anyN (pApart A) 10 = true := anyN_iff.mpr ⟨f, h1, (pAlone_iff.mp h3).1⟩
    have a2 : anyN (pAlone A) 10 = true := anyN_iff.mpr ⟨f, h1, h3⟩
    rw [if_neg (by omega), if_pos a1]
    unfold pPick
    rw [if_pos a2, ff_is (fun k hk => h4 k (by omega) hk) h3 h1]
  · have a1 : anyN (pApart A) 10 = true := anyN_iff.mpr ⟨f, h1, h3⟩
    have a2 : anyN (pAlone A) 10 = false := anyN_not.mpr fun t ht => h5 t (by omega) ht
    rw [if_neg (by omega), if_pos a1]
    unfold pPick
    rw [if_neg (by rw [a2]; decide), ff_is (fun k hk => h6 k (by omega) hk) h3 h1]
theorem t_lone {A : Nat → Nat} {Q : Int32 → xM → Prop} (hS : SV M A) (hJ : aJ A) (hq : Q (pRes A) M) : wX4_lone M Q := by
  have hO := hJ.1
  unfold wX4_lone
  refine t_reached (i := 0) (d := true) hS hO (by omega) (fun S s0 sl sc => ?_)
  have key := z_loop (P := fun n m => ∀ f, loneI A m f → lX4_lone_12 Q n M (bs S 10) (if f = 10 then (-1 : Int32) else nI f) (nI (10 - m) + (-1))) 10 (fun n f hf => ?_) (fun n m hm hn f hf => ?_)
  · obtain ⟨n, hn⟩ := key
    exact ⟨n, hn 10 (Or.inl ⟨rfl, fun t h1 h2 => absurd h2 (by omega)⟩)⟩
  · unfold lX4_lone_12
    rw [loneI_e hf]
    refine ⟨fun _ => hq, fun z => absurd (show nI (10 - 10) + (-1) < 0 by decide) z⟩
  · have hn2 := hn _ (loneI_s hm hf)
    have e1 : nI (10 - m) + (-1) = nI (9 - m) := by
      rw [show 10 - m = (9 - m) + 1 by omega]; exact nI_m1 _
    rw [show 10 - (m + 1) = 9 - m by omega] at hn2
    unfold lX4_lone_12
    rw [e1]
    generalize hi : 9 - m = i at hn2
    have hi10 : i < 10 := by omega
    have v1 : ∀ g : Nat, (if g = 10 then (-1 : Int32) else nI g) = -1 ↔ g = 10 ∨ nI g = -1 := fun g => by
      by_cases e : g = 10
      · simp [e]
      · simp [e]
    have fb : f = 10 ∨ f < 10 := by rcases hf with h | h | h <;> omega
    have fap : f < 10 → pApart A f = true := fun q => by
      rcases hf with h | h | h
      · omega
      · exact (pAlone_iff.mp h.2.2.1).1
      · exact h.2.2.1
    refine ⟨fun z => ?_, fun _ => t_isDirectory hS hO hi10 ?_⟩
    · rw [show (0 : Int32) = nI 0 from rfl, z_lt (by omega) (by omega)] at z; omega
    have tst := bs_test S (n := 10) (i := i) (by omega) hi10
    rw [tst]
    -- with 'is' settled
    have go : ∀ a : Bool, pApart A i = a → wX4_lone_37 Q (lX4_lone_12 Q n) M (bs S 10) (if f = 10 then (-1 : Int32) else nI f) (nI i) (bI a) := by
      intro a ha
      have go2 : ∀ b : Bool, pAlone A i = b → wX4_lone_57 Q (lX4_lone_12 Q n) M (bs S 10) (if f = 10 then (-1 : Int32) else nI f) (nI i) (bI a) (bI b) := by
        intro b hb
        have e9 : ∀ g : Bool, (if (a && (b || !g)) = true then nI i else (if f = 10 then (-1 : Int32) else nI f)) = (if (if (a && (b || !g)) = true then i else f) = 10 then (-1 : Int32) else nI (if (a && (b || !g)) = true then i else f)) := fun g => by
          by_cases z : (a && (b || !g)) = true
          · rw [if_pos z, if_pos z, if_neg (by omega)]
          · rw [if_neg z, if_neg z]
        rw [ha, hb, ← e9] at hn2
        unfold wX4_lone_57 wX4_lone_76
        rcases fb with q | q
        · rw [if_pos q]
          refine ⟨fun _ => lone_77 (c := false) ?_, fun z => absurd rfl z⟩
          rw [q] at hn2; exact hn2
        · rw [if_neg (by omega)]
          have n1 : ¬ nI f = (-1 : Int32) := by rw [show (-1 : Int32) = -nI 1 from rfl, z_neq (by omega) (by omega) (by omega)]; exact id
          refine ⟨fun z => absurd z n1, fun _ => t_entriesTo hS hO (by omega) ?_⟩
          have h60 := fb_ct_le (aEnt A f) 60
          rw [pAlone_c (fap q), decide_eq_true q, Bool.true_and, if_neg (show ¬ f = 10 by omega)] at hn2
          rw [show (0 : Int32) = nI 0 from rfl, z_eq (by omega) (by omega)]
          refine ⟨fun z => lone_77 (c := false) ?_, fun z => lone_77 (c := true) ?_⟩
          · rw [decide_eq_false z] at hn2; exact hn2
          · rw [decide_eq_true z] at hn2; exact hn2
      unfold wX4_lone_37 wX4_lone_56
      refine ⟨fun z => ?_, fun z => t_entriesTo hS hO (by omega) ?_⟩
      · have e := (bI_0 _).mp z
        exact go2 false (pAlone_ap (ha.trans e))
      · have e := bI_ne z
        have h60 := fb_ct_le (aEnt A i) 60
        have e2 := pAlone_c (A := A) (ha.trans e)
        rw [show (0 : Int32) = nI 0 from rfl, z_eq (by omega) (by omega)]
        refine ⟨fun z => go2 false (by rw [e2, decide_eq_false z]), fun z => go2 true (by rw [e2, decide_eq_true z])⟩
    unfold wX4_lone_36
    refine ⟨fun z => go false ?_, fun z => ?_⟩
    · unfold pApart; rw [(bI_0 _).mp z]; rfl
    · have hd := bI_ne z
      have hr := reach_dir hJ s0 sl sc hi10 hd
      have hp : pApart A i = !S i := by unfold pApart; rw [hd, hr]; rfl
      cases hs : S i with
      | true => exact ⟨fun _ => go false (by rw [hp, hs]; rfl), fun z => absurd z (by decide)⟩
      | false => exact ⟨fun z => absurd rfl z, fun _ => go true (by rw [hp, hs]; rfl)⟩
theorem pConn_eq (h : anyN (pApart T.1) 10 = true) : pConn T = pJoin (pCut T (pPick T.1)) (pPick T.1) := by
  unfold pConn
  rw [if_pos h]
  by_cases z : anyN (pAlone T.1) 10 = true
  · rw [if_pos z]
    have e : pPick T.1 = fa_first (pAlone T.1) 10 := by unfold pPick; rw [if_pos z]
    have h2 := (pAlone_iff.mp (fa_at z).2).2
    rw [aNx_all, anyN_not] at h2
    have : pCut T (pPick T.1) = T := by unfold pCut; rw [e, if_neg (ff_none h2)]
    rw [this]
  · rw [if_neg z]
theorem pAtt_6 {A : Nat → Nat} {i : Nat} (hO : aOK A) : (pAtt A i).2 ≤ 6 := by
  have h6 := pSlot_6 (hO.1 0 (by omega))
  unfold pAtt; split
  · rename_i h; show pSlot A ≤ 6; omega
  · exact Nat.le_refl 6
theorem t_conns {Q : xM → Prop} : ∀ c (T : aT) (M : xM), SK M rf T → aJ T.1 → fb_ct (pApart T.1) 10 ≤ c → T.2.length + 2 * c < 300 → (∀ M', SK M' rf (pConns T c) → rOff M M' → ∃ n, lX4_connects_87 Q n M' 0) → lX4_connects_5 Q (c + 1) M (pRes T.1) := by
  have done : ∀ (T : aT) (M : xM) n, anyN (pApart T.1) 10 = false → (∃ n, lX4_connects_87 Q n M 0) → lX4_connects_5 Q (n + 1) M (pRes T.1) := fun T M n z hq => by
    unfold lX4_connects_5 pRes
    rw [if_neg (by rw [z]; decide)]
    exact ⟨fun _ => hq, fun q => absurd rfl q⟩
  intro c
  induction c with
  | zero =>
    intro T M h hJ hc hl hq
    have z : anyN (pApart T.1) 10 = false := ct_0.mp (by omega)
    exact done T M _ z (hq M h rOff_rf)
  | succ c ih =>
    intro T M h hJ hc hl hq
    by_cases z : anyN (pApart T.1) 10 = true
    · have hp := pPick_apart z
      have hls := pConn_less hJ z
      have hln := pConn_len T
      have hJ2 := pConn_J (T := T) hJ
      have hqc : ∀ M', SK M' rf (pConns (pConn T) c) → rOff M M' → ∃ n, lX4_connects_87 Q n M' 0 := hq
      have e := pConn_eq z
      have er : pRes T.1 = nI (pPick T.1) := by unfold pRes; rw [if_pos z]
      rw [er]
      have rest : ∀ M1, SK M1 rf (pCut T (pPick T.1)) → rOff M M1 → wX4_connects_42 Q (lX4_connects_5 Q (c + 1)) M1 (nI (pPick T.1)) := by
        intro M1 k1 o1
        have hcl := pCut_len T (pPick T.1)
        have hi := hp.1
        rw [e] at hls hJ2 hln hqc
        generalize pCut T (pPick T.1) = T1 at k1 hls hJ2 hln hqc hcl
        generalize pPick T.1 = i at hi hls hJ2 hln hqc
        have b6 := pAtt_6 (A := T1.1) (i := i) k1.2.1
        have hn : ∀ M2, SK M2 rf (pJoin T1 i) → rOff M1 M2 → lX4_connects_5 Q (c + 1) M2 (pRes (pJoin T1 i).1) := fun M2 k2 o2 =>
          ih (pJoin T1 i) M2 k2 hJ2 (by omega) (by omega) (fun M' k3 o3 => hqc M' k3 (rOff_tr (rOff_tr o1 o2) o3))
        unfold wX4_connects_42
        refine t_attaches k1.1 k1.2.1 hi (fun M2 c2 o2 r2 => ?_)
        have k2 : SK M2 rf ((pAtt T1.1 i).1, T1.2) := SK_set k1 c2 (pAtt_ok k1.2.1 hi) o2 r2
        have ot : rOff M1 M2 := rOff_51 o2 r2
        have hJo : pJoin T1 i = ((pAtt T1.1 i).1, T1.2 ++ [(if (pAtt T1.1 i).2 = 6 then 11 else 10, i, if (pAtt T1.1 i).2 = 6 then 0 else (pAtt T1.1 i).2)]) := rfl
        rw [hJo] at hn hJ2
        unfold wX4_connects_62 wX4_connects_74
        simp (disch := omega) only [zl 6, z_eq]
        refine ⟨fun z6 => ⟨fun _ => ?_, fun q => absurd q z6⟩, fun z6 => ⟨fun q => absurd z6 q, fun _ => ?_⟩⟩
        · rw [if_neg z6, if_neg z6] at hn
          exact t_asks (r := 10) k2 (by show T1.2.length < 400; omega) (fun M3 k3 o3 e3 => t_lone k3.1 hJ2 (hn M3 k3 (rOff_tr ot o3)))
        · rw [if_pos z6, if_pos z6] at hn
          exact t_asks (r := 11) (p := 0) k2 (by show T1.2.length < 400; omega) (fun M3 k3 o3 e3 => t_lone k3.1 hJ2 (hn M3 k3 (rOff_tr ot o3)))
      have hi := hp.1
      have nm : ∀ x : Nat, x < 2147483648 → ¬ nI x = (-1 : Int32) := fun x hx => by rw [show (-1 : Int32) = -nI 1 from rfl, z_neq hx (by omega) (by omega)]; exact id
      unfold lX4_connects_5
      refine ⟨fun q => absurd q (nm _ (by omega)), fun _ => t_entryTo h.1 h.2.1 (by omega) ?_⟩
      by_cases zc : fa_first (aEnt T.1 (pPick T.1)) 60 < 60
      · rw [if_pos zc]
        have ec : pCut T (pPick T.1) = (aUp T.1 (60 + fa_first (aEnt T.1 (pPick T.1)) 60) 260, T.2 ++ [(9, pPick T.1, fa_first (aEnt T.1 (pPick T.1)) 60 / 6)]) := by unfold pCut; rw [if_pos zc]
        rw [ec] at rest
        generalize fa_first (aEnt T.1 (pPick T.1)) 60 = w at zc rest
        refine ⟨fun q => absurd q (nm _ (by omega)), fun _ => ?_⟩
        rw [show nI w / 6 = nI (w / 6) from z_div (d := 6) (by omega) (by omega) (by omega)]
        refine t_asks (r := 9) h (by omega) (fun M1 k1 o1 e1 => ?_)
        have g : 60 + w < 147 := by omega
        simp (disch := omega) only [zl 60, zl 147, z_add, z_in, z_cl, g, true_and]
        exact rest _ (SK_set k1 (SV_e (x := 260) k1.1 zc) (aOK_ent k1.2.1 zc (by omega)) (fun q hq => xup_n hq) (by rw [xup_at, upd, if_neg (by omega)])) (rOff_tr o1 (rOff_s (by omega)))
      · rw [if_neg zc]
        have ec : pCut T (pPick T.1) = T := by unfold pCut; rw [if_neg zc]
        rw [ec] at rest
        exact ⟨fun _ => rest M h rOff_rf, fun q => absurd rfl q⟩
    · have z' : anyN (pApart T.1) 10 = false := by simpa using z
      rw [pConns_none z'] at hq
      exact done T M _ z' (hq M h rOff_rf)
end RC
