/-! the reference: passes 1 and 2 -/
def SK (M : xM) (rf : Nat → Bool) (T : aT) : Prop := SV M T.1 ∧ aOK T.1 ∧ M 51 146 = bs rf 17 ∧ M 50 14 = nI T.2.length ∧ qAt M 56 57 58 T.2
theorem bI_ne {b : Bool} (h : ¬ bI b = 0) : b = true := by cases b with | true => rfl | false => exact absurd rfl h
theorem or_bI (a b : Bool) : bI (a || b) = if a = true then 1 else bI b := by cases a <;> rfl
section RP
variable {M : xM} {rf : Nat → Bool} {T : aT}
theorem SK_set {M' : xM} {B : Nat → Nat} (h : SK M rf T) (hS : SV M' B) (hO : aOK B) (hp : ∀ p, p ≠ 51 → M' p = M p) (h6 : M' 51 146 = M 51 146) : SK M' rf (B, T.2) := by
  obtain ⟨-, -, k3, k4, k5⟩ := h
  exact ⟨hS, hO, h6.trans k3, by rw [hp 50 (by omega)]; exact k4, qAt_cong k5 (hp _ (by omega)) (hp _ (by omega)) (hp _ (by omega))⟩
theorem rOff_51 {M M' : xM} (hp : ∀ p, p ≠ 51 → M' p = M p) (h6 : M' 51 146 = M 51 146) : rOff M M' := ⟨fun p _ h _ _ _ => hp p h, fun j _ => by rw [hp 50 (by omega)], h6⟩
theorem t_asks {r w p : Nat} {Q : xM → Prop} (h : SK M rf T) (hl : T.2.length < 400) (hq : ∀ M', SK M' rf (T.1, T.2 ++ [(r, w, p)]) → rOff M M' → M' 51 = M 51 → Q M') : wX4_asks M (nI r) (nI w) (nI p) Q := by
  obtain ⟨k1, k2, k3, k4, k5⟩ := h
  unfold wX4_asks
  have e1 : nI T.2.length + 1 = nI (T.2.length + 1) := nI_1 _
  simp (disch := omega) only [zl 400, xup_n, k4, z_in, z_cl, e1]
  refine ⟨hl, hl, hl, ?_⟩
  have hq5 := qAt_add (r := r) (w := w) (p := p) k5 (show 56 ≠ 57 by omega) (show 56 ≠ 58 by omega) (show 57 ≠ 58 by omega)
  refine hq _ ⟨SV_same k1 ?_, k2, ?_, ?_, qAt_cong hq5 (xup_n (by omega)) (xup_n (by omega)) (xup_n (by omega))⟩ ⟨fun q a b c d e => ?_, fun j hj => ?_, ?_⟩ ?_
  · rw [xup_n (by omega), xup_n (by omega), xup_n (by omega), xup_n (by omega)]
  · rw [xup_n (by omega), xup_n (by omega), xup_n (by omega), xup_n (by omega)]; exact k3
  · rw [xup_at]; simp [upd]
  · rw [xup_n a, xup_n e, xup_n d, xup_n c]
  · rw [xup_at]; unfold upd; rw [if_neg hj, xup_n (by omega), xup_n (by omega), xup_n (by omega)]
  · rw [xup_n (by omega), xup_n (by omega), xup_n (by omega), xup_n (by omega)]
  · rw [xup_n (by omega), xup_n (by omega), xup_n (by omega), xup_n (by omega)]
theorem t_isRefused {r : Nat} {Q : Int32 → xM → Prop} (h : SK M rf T) (hr : r < 17) (hq : Q (bI (rf r)) M) : wX4_isRefused M (nI r) Q := by
  unfold wX4_isRefused wX4_isRefused_21
  have e : (146 : Int32).toNatClampNeg = 146 := rfl
  rw [e, h.2.2.1, bs_test rf (by omega) hr]
  refine ⟨by rw [zl 146, z_in (by omega) (by omega)]; omega, fun z => ⟨rfl, ?_⟩, fun z => ⟨rfl, ?_⟩⟩
  · cases hb : rf r with
    | false => rw [hb] at hq; exact hq
    | true => rw [hb] at z; exact absurd rfl z
  · cases hb : rf r with
    | true => rw [hb] at hq; exact hq
    | false => rw [hb] at z; exact absurd z (by decide)
theorem t_isSharedAhead {A : Nat → Nat} {k : Nat} {Q : Int32 → xM → Prop} (hS : SV M A) (hO : aOK A) (hk : k < 30) (hq : Q (bI (anyN (aTo A (A (30 + k))) k)) M) : wX4_isSharedAhead M (nI k) Q := by
  have h1 := hS.2.2.2.1
  unfold wX4_isSharedAhead
  refine z_loop (P := fun n j => lX4_isSharedAhead_4 (nI k) Q n M (bI (anyN (aTo A (A (30 + k))) j)) (nI j)) k (fun n => ?_) (fun n j hj hn => ?_)
  · unfold lX4_isSharedAhead_4
    simp (disch := omega) only [z_le, Nat.le_refl, true_implies, not_true, false_implies, and_true]
    exact ⟨bI_1 _, hq⟩
  · have h2 := hO.2.2.2.1 j (by omega)
    have h3 := hO.2.2.2.1 k hk
    have hl : 30 + j < 147 := by omega
    have hl2 : 30 + k < 147 := by omega
    have hn' : lX4_isSharedAhead_4 (nI k) Q n M (bI (anyN (aTo A (A (30 + k))) j || aTo A (A (30 + k)) j)) (nI (j + 1)) := hn
    unfold lX4_isSharedAhead_4 wX4_isSharedAhead_34 wX4_isSharedAhead_39
    simp (disch := omega) only [zl 30, zl 147, z_le, z_add, z_in, z_cl, h1, z_eq, hl, hl2, true_and, nI_1]
    refine ⟨fun z => absurd z (by omega), fun _ => ⟨fun z => ?_, fun z => ⟨fun z2 => ?_, fun z2 => ?_⟩⟩⟩
    · rw [bI_ne z, Bool.true_or] at hn'; exact hn'
    · rw [(bI_0 _).mp z, Bool.false_or] at hn'
      have e : aTo A (A (30 + k)) j = false := by unfold aTo; simp [z2]
      rw [e] at hn'; exact hn'
    · have e : aTo A (A (30 + k)) j = true := by unfold aTo; simp [z2]
      rw [e, Bool.or_true] at hn'; exact hn'
theorem t_looksAtPointer {i p : Nat} {Q : xM → Prop} (h : SK M rf T) (hi : i < 10) (hp : p < 3) (hl : T.2.length < 390) (hq : ∀ M', SK M' rf (pPtr rf T (3 * i + p)) → rOff M M' → Q M') : wX4_looksAtPointer M (nI i) (nI p) Q := by
  have hS := h.1
  have hO := h.2.1
  have v := hS.2.2.2.1 (3 * i + p) (by omega)
  have b := hO.2.2.2.1 (3 * i + p) (by omega)
  have w := hS.1 i hi
  have bw := hO.1 i hi
  have g1 : 30 + (3 * i + p) < 147 := by omega
  have g2 : i < 147 := by omega
  have d1 : (3 * i + p) / 3 = i := by omega
  have d2 : (3 * i + p) % 3 = p := by omega
  have bh := (xhold_at (T.1 i) bw).2
  unfold pPtr at hq
  rw [d1, d2] at hq
  unfold wX4_looksAtPointer wX4_looksAtPointer_171 wX4_looksAtPointer_182
  simp (disch := omega) only [zl 30, zl 3, zl 99, zl 24, zl 147, zl 0, z_mul, z_add, Nat.zero_add, z_in, z_cl, v, w, z_eq, g1, g2, true_and]
  -- a pointer that becomes none
  have gone : ∀ (M1 : xM) (T1 : aT), SK M1 rf T1 → SK (xup M1 51 (30 + (3 * i + p)) (nI 99)) rf (aUp T1.1 (30 + (3 * i + p)) 99, T1.2) ∧ rOff M1 (xup M1 51 (30 + (3 * i + p)) (nI 99)) := fun M1 T1 h1 =>
    have e : xup M1 51 (30 + (3 * i + p)) (nI 99) 51 146 = M1 51 146 := by rw [xup_at, upd, if_neg (by omega)]
    ⟨SK_set h1 (SV_n h1.1 (by omega)) (aOK_ptr h1.2.1 (by omega) (by omega)) (fun q hq => xup_n hq) e, rOff_s (by omega)⟩
  refine ⟨fun z => t_holds bw ?_, fun z => ?_⟩
  · rw [if_neg z] at hq
    simp (disch := omega) only [z_lt]
    refine ⟨fun z2 => ?_, fun z2 => ?_⟩
    · rw [if_neg (by omega)] at hq
      refine ⟨fun z3 => ?_, fun z3 => ?_⟩
      · rw [if_neg (by omega)] at hq
        refine t_isRefused (r := 4) h (by omega) ⟨fun z4 => ?_, fun z4 => ?_⟩
        · rw [if_neg (fun q => by rw [q.1] at z4; exact z4 rfl)] at hq
          exact hq M h rOff_rf
        · refine t_isSharedAhead hS hO (by omega) ⟨fun z5 => ?_, fun z5 => ?_⟩
          · rw [if_neg (fun q => by rw [q.2] at z5; exact absurd z5 (by decide))] at hq
            exact hq M h rOff_rf
          · rw [if_pos ⟨(bI_0 _).mp z4, bI_ne z5⟩] at hq
            refine t_asks (r := 4) h (by omega) (fun M1 k1 o1 e1 => t_freeBlock k1.1 k1.2.1 ?_)
            have w1 := k1.1.1 i hi
            have y1 := k1.1.2.2.2.2.2.1 (T.1 (30 + (3 * i + p))) z3
            have y2 := k1.2.1.2.2.2.2.2.1 (T.1 (30 + (3 * i + p))) z3
            have s1 := gone M1 _ k1
            dsimp only at w1 y1 y2 s1 ⊢
            rw [w1]
            simp (disch := omega) only [zl 4, z_eq]
            refine ⟨fun z6 => ?_, fun z6 => ?_⟩
            · rw [if_neg (fun q => q.1 z6)] at hq
              exact hq _ s1.1 (rOff_tr o1 s1.2)
            · by_cases z7 : fa_first (fun b => !aPt T.1 b) 24 < 24
              · rw [if_pos ⟨z6, z7⟩] at hq
                rw [if_pos z7]
                generalize fa_first (fun b => !aPt T.1 b) 24 = f at hq z7
                have g3 : 120 + T.1 (30 + (3 * i + p)) < 147 := by omega
                have g4 : 120 + f < 147 := by omega
                have n9 : ¬ nI f = (-9 : Int32) := by rw [show (-9 : Int32) = -nI 9 from rfl, z_neq (by omega) (by omega) (by omega)]; exact id
                refine ⟨fun z8 => absurd z8 n9, fun _ => ?_⟩
                simp (disch := omega) only [zl 120, z_add, z_in, z_cl, y1, g3, g4, true_and]
                have k2 : SK (xup M1 51 (120 + f) (nI (T.1 (120 + T.1 (30 + (3 * i + p)))))) rf (aUp T.1 (120 + f) (T.1 (120 + T.1 (30 + (3 * i + p)))), T.2 ++ [(4, i, p)]) :=
                  SK_set k1 (SV_n k1.1 (by omega)) (aOK_byt k1.2.1 z7 y2) (fun q hq => xup_n hq) (by rw [xup_at, upd, if_neg (by omega)])
                have k3 : SK (xup (xup M1 51 (120 + f) (nI (T.1 (120 + T.1 (30 + (3 * i + p)))))) 51 (30 + (3 * i + p)) (nI f)) rf (aUp (aUp T.1 (120 + f) (T.1 (120 + T.1 (30 + (3 * i + p))))) (30 + (3 * i + p)) f, T.2 ++ [(4, i, p)]) :=
                  SK_set k2 (SV_n k2.1 (by omega)) (aOK_ptr k2.2.1 (by omega) (by omega)) (fun q hq => xup_n hq) (by rw [xup_at, upd, if_neg (by omega)])
                exact hq _ k3 (rOff_tr (rOff_tr o1 (rOff_s (by omega))) (rOff_s (by omega)))
              · rw [if_neg (fun q => z7 q.2)] at hq
                rw [if_neg z7]
                exact ⟨fun _ => hq _ s1.1 (rOff_tr o1 s1.2), fun z8 => absurd rfl z8⟩
      · rw [if_pos (by omega)] at hq
        refine t_asks (r := 3) h (by omega) (fun M1 k1 o1 e1 => ?_)
        have s1 := gone M1 _ k1
        exact hq _ s1.1 (rOff_tr o1 s1.2)
    · rw [if_pos (by omega)] at hq
      refine t_asks (r := 2) h (by omega) (fun M1 k1 o1 e1 => ?_)
      have s1 := gone M1 _ k1
      exact hq _ s1.1 (rOff_tr o1 s1.2)
  · rw [if_pos z] at hq
    exact hq M h rOff_rf
theorem t_isNamedAhead {A : Nat → Nat} {i p : Nat} {Q : Int32 → xM → Prop} (hS : SV M A) (hO : aOK A) (hi : i < 10) (hp : p < 6) (he : ¬ A (60 + (6 * i + p)) = 260) (hq : Q (bI (anyN (fun q => aFull A (6 * i + q) && (A (60 + (6 * i + q)) % 26 == A (60 + (6 * i + p)) % 26)) p)) M) : wX4_isNamedAhead M (nI i) (nI p) Q := by
  have h1 := hS.2.2.2.2.1
  unfold wX4_isNamedAhead
  refine z_loop (P := fun n j => lX4_isNamedAhead_5 (nI i) (nI p) Q n M (bI (anyN (fun q => aFull A (6 * i + q) && (A (60 + (6 * i + q)) % 26 == A (60 + (6 * i + p)) % 26)) j)) (nI j)) p (fun n => ?_) (fun n j hj hn => ?_)
  · unfold lX4_isNamedAhead_5
    simp (disch := omega) only [z_le, Nat.le_refl, true_implies, not_true, false_implies, and_true]
    exact ⟨bI_1 _, hq⟩
  · have h2 := hO.2.2.2.2.1 (6 * i + j) (by omega)
    have h3 := hO.2.2.2.2.1 (6 * i + p) (by omega)
    have v1 := h1 (6 * i + j) (by omega)
    have v2 := h1 (6 * i + p) (by omega)
    rw [eM_some he] at v2
    have g1 : 60 + (6 * i + j) < 147 := by omega
    have g2 : 60 + (6 * i + p) < 147 := by omega
    have hn' : lX4_isNamedAhead_5 (nI i) (nI p) Q n M (bI (anyN (fun q => aFull A (6 * i + q) && (A (60 + (6 * i + q)) % 26 == A (60 + (6 * i + p)) % 26)) j || (aFull A (6 * i + j) && (A (60 + (6 * i + j)) % 26 == A (60 + (6 * i + p)) % 26)))) (nI (j + 1)) := hn
    unfold lX4_isNamedAhead_5 wX4_isNamedAhead_72 wX4_isNamedAhead_76 wX4_isNamedAhead_77
    simp (disch := omega) only [zl 60, zl 6, zl 1, zl 26, zl 147, z_le, z_mul, z_add, Nat.add_assoc, z_in, z_cl, v1, v2, g1, g2, true_and, eM_n1]
    refine ⟨fun z => absurd z (by omega), fun _ => ⟨fun z => ?_, fun z => ⟨fun z2 => ?_, fun z2 => ?_⟩⟩⟩
    · rw [bI_ne z, Bool.true_or] at hn'; exact hn'
    · rw [(bI_0 _).mp z, Bool.false_or] at hn'
      have e : aFull A (6 * i + j) = false := by unfold aFull; simp [z2]
      rw [e, Bool.false_and] at hn'; exact hn'
    · rw [(bI_0 _).mp z, Bool.false_or] at hn'
      have e : aFull A (6 * i + j) = true := by unfold aFull; simp [z2]
      rw [e, Bool.true_and] at hn'
      rw [eM_some z2]
      simp (disch := omega) only [z_rem, z_eq]
      refine ⟨fun z3 => ?_, fun z3 => ?_⟩
      · have e : (A (60 + (6 * i + j)) % 26 == A (60 + (6 * i + p)) % 26) = false := by simp [z3]
        rw [e] at hn'; exact hn'
      · have e : (A (60 + (6 * i + j)) % 26 == A (60 + (6 * i + p)) % 26) = true := by simp [z3]
        rw [e] at hn'; exact hn'
theorem t_isListedAhead {A : Nat → Nat} {k t : Nat} {Q : Int32 → xM → Prop} (hS : SV M A) (hO : aOK A) (hk : k < 60) (ht : t < 1000) (hq : Q (bI (anyN (aEnt A t) k)) M) : wX4_isListedAhead M (nI k) (nI t) Q := by
  unfold wX4_isListedAhead
  refine z_loop (P := fun n j => lX4_isListedAhead_5 (nI k) (nI t) Q n M (bI (anyN (aEnt A t) j)) (nI j)) k (fun n => ?_) (fun n j hj hn => ?_)
  · unfold lX4_isListedAhead_5
    simp (disch := omega) only [z_le, Nat.le_refl, true_implies, not_true, false_implies, and_true]
    exact ⟨bI_1 _, hq⟩
  · have hn' : lX4_isListedAhead_5 (nI k) (nI t) Q n M (bI (anyN (aEnt A t) j || aEnt A t j)) (nI (j + 1)) := hn
    unfold lX4_isListedAhead_5 wX4_isListedAhead_25 wX4_isListedAhead_30
    simp (disch := omega) only [z_le, nI_1]
    refine ⟨fun z => absurd z (by omega), fun _ => ⟨fun z => ?_, fun z => t_isEntryTo hS hO (by omega) ht ⟨fun z2 => ?_, fun z2 => ?_⟩⟩⟩
    · rw [bI_ne z, Bool.true_or] at hn'; exact hn'
    · rw [(bI_0 _).mp z, Bool.false_or, (bI_0 _).mp z2] at hn'; exact hn'
    · rw [bI_ne z2, Bool.or_true] at hn'; exact hn'
theorem t_looksAtSlot {i p : Nat} {Q : xM → Prop} (h : SK M rf T) (hi : i < 10) (hp : p < 6) (hl : T.2.length < 390) (hq : ∀ M', SK M' rf (pEnt T (6 * i + p)) → rOff M M' → Q M') : wX4_looksAtSlot M (nI i) (nI p) Q := by
  have hS := h.1
  have hO := h.2.1
  have v := hS.2.2.2.2.1 (6 * i + p) (by omega)
  have b := hO.2.2.2.2.1 (6 * i + p) (by omega)
  have w := hS.1 i hi
  have bw := hO.1 i hi
  have g1 : 60 + (6 * i + p) < 147 := by omega
  have g2 : i < 147 := by omega
  have d1 : (6 * i + p) / 6 = i := by omega
  have d2 : (6 * i + p) % 6 = p := by omega
  have bh := (xlist_at (T.1 i) bw).2
  have hF : pFault T.1 (6 * i + p) = pFault T.1 (6 * i + p) := rfl
  unfold pEnt at hq
  rw [d1, d2] at hq
  -- the end: a reason, or none
  have fin : ∀ r, pFault T.1 (6 * i + p) = r → ¬ T.1 (60 + (6 * i + p)) = 260 → r < 9 → wX4_looksAtSlot_115 (nI i) (nI p) Q M (nI r) := fun r hr he h9 => by
    rw [if_neg he, hr] at hq
    unfold wX4_looksAtSlot_115 wX4_looksAtSlot_140
    rw [show (0 : Int32) = nI 0 from rfl, z_le (by omega) (by omega)]
    refine ⟨fun z => ?_, fun z => ?_⟩
    · rw [if_pos (by omega)] at hq; exact hq M h rOff_rf
    · rw [if_neg (by omega)] at hq
      refine t_asks h (by omega) (fun M1 k1 o1 e1 => ?_)
      simp (disch := omega) only [zl 60, zl 6, zl 147, z_mul, z_add, z_in, z_cl, g1, true_and]
      refine hq _ (SK_set k1 (SV_e (x := 260) k1.1 (by omega)) (aOK_ent k1.2.1 (by omega) (by omega)) (fun q hq => xup_n hq) (by rw [xup_at, upd, if_neg (by omega)])) (rOff_tr o1 (rOff_s (by omega)))
  unfold wX4_looksAtSlot wX4_looksAtSlot_71 wX4_looksAtSlot_114
  simp (disch := omega) only [zl 60, zl 6, zl 1, zl 147, zl 0, z_mul, z_add, Nat.zero_add, z_in, z_cl, v, w, g1, g2, true_and, eM_n1]
  refine ⟨fun z => t_lists bw ?_, fun z => ?_⟩
  · have fin2 := fun r hr => fin r hr z
    have hx : T.1 (60 + (6 * i + p)) / 26 < 10 := by omega
    have w2 := hS.1 _ hx
    have b2 := hO.1 _ hx
    have g3 : T.1 (60 + (6 * i + p)) / 26 < 147 := by omega
    rw [eM_some z]
    simp (disch := omega) only [zl 26, z_lt, z_div, z_add, Nat.zero_add, z_eq, z_in, z_cl, w2, g3, true_and]
    unfold pFault at fin2
    rw [d1, d2] at fin2
    refine ⟨fun z2 => ?_, fun z2 => fin2 5 (by rw [if_pos (by omega)]) (by omega)⟩
    rw [if_neg (by omega)] at fin2
    refine ⟨fun z3 => fin2 6 (by rw [if_pos (Or.inl z3)]) (by omega), fun z3 => ⟨fun z4 => ?_, fun z4 => fin2 6 (by rw [if_pos (Or.inr z4)]) (by omega)⟩⟩
    rw [if_neg (fun q => q.elim z3 z4)] at fin2
    refine t_isNamedAhead hS hO hi hp z ⟨fun z5 => ?_, fun z5 => fin2 7 (by rw [if_pos (bI_ne z5)]) (by omega)⟩
    have z5' := (bI_0 _).mp z5
    rw [if_neg (fun q => by rw [z5'] at q; cases q)] at fin2
    refine t_isDirectory hS hO hx ⟨fun z6 => fin2 0 (by rw [if_neg (fun q => by rw [q.1] at z6; exact absurd z6 (by decide))]) (by omega), fun z6 => ?_⟩
    refine t_isListedAhead hS hO (by omega) (by omega) ⟨fun z7 => fin2 0 (by rw [if_neg (fun q => by rw [q.2] at z7; exact absurd z7 (by decide))]) (by omega), fun z7 => fin2 8 (by rw [if_pos ⟨bI_ne z6, bI_ne z7⟩]) (by omega)⟩
  · rw [if_pos z] at hq
    exact hq M h rOff_rf
end RP
