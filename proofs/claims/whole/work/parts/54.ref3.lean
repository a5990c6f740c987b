/-! the reference: the least name, attaching; inodes that are reached -/
section RT
variable {M : xM} {A : Nat → Nat} {Q : Int32 → xM → Prop}
theorem t_leastName (hS : SV M A) (hO : aOK A) (hq : Q (nI (pName A)) M) : wX4_leastName M Q := by
  have h1 := hS.2.2.2.2.1
  have hf : pName A ≤ 6 := aNm_free A 0
  unfold wX4_leastName
  refine z_loop (P := fun n j => (∀ k, k < j → (!aNm A 0 k) = false) → lX4_leastName_2 Q n M (nI j)) 26 (fun n hb => ?_) (fun n m hm hn hb => ?_) |>.imp fun n h => h (fun k hk => absurd hk (Nat.not_lt_zero k))
  · have := ff_none (p := fun nm => !aNm A 0 nm) hb
    exact absurd (show pName A < 26 by omega) this
  · unfold lX4_leastName_2
    simp (disch := omega) only [zl 26, z_le]
    refine ⟨fun z => absurd z (by omega), fun _ => ?_⟩
    refine z_loop (P := fun n2 j => lX4_leastName_12 Q (lX4_leastName_2 Q n) n2 M (nI m) (bI (anyN (fun s => aFull A (6 * 0 + s) && (A (60 + (6 * 0 + s)) % 26 == m)) j)) (nI j)) 6 (fun n2 => ?_) (fun n2 j hj hn2 => ?_)
    · unfold lX4_leastName_12
      simp (disch := omega) only [zl 6, z_le, Nat.le_refl, true_implies, not_true, false_implies, and_true]
      refine ⟨fun z => ?_, fun z => ?_⟩
      · rw [nI_1]
        exact hn (lt_snoc hb (by rw [show aNm A 0 m = true from bI_ne z]; rfl))
      · have hy : (!aNm A 0 m) = true := by rw [show aNm A 0 m = false from (bI_0 _).mp z]; rfl
        have e : pName A = m := ff_is (p := fun nm => !aNm A 0 nm) hb hy hm
        rw [e] at hq; exact hq
    · have h2 := hO.2.2.2.2.1 j (by omega)
      have v := h1 j (by omega)
      have g : 60 + j < 147 := by omega
      have hn' : lX4_leastName_12 Q (lX4_leastName_2 Q n) n2 M (nI m) (bI (anyN (fun s => aFull A (6 * 0 + s) && (A (60 + (6 * 0 + s)) % 26 == m)) j || (aFull A j && (A (60 + j) % 26 == m)))) (nI (j + 1)) := by
        have : lX4_leastName_12 Q (lX4_leastName_2 Q n) n2 M (nI m) (bI (anyN (fun s => aFull A (6 * 0 + s) && (A (60 + (6 * 0 + s)) % 26 == m)) j || (aFull A (6 * 0 + j) && (A (60 + (6 * 0 + j)) % 26 == m)))) (nI (j + 1)) := hn2
        rw [show 6 * 0 + j = j by omega] at this
        exact this
      unfold lX4_leastName_12 wX4_leastName_51 wX4_leastName_55 wX4_leastName_56
      simp (disch := omega) only [zl 60, zl 6, zl 1, zl 26, zl 147, z_le, z_add, z_in, z_cl, v, g, true_and, eM_n1]
      refine ⟨fun z => absurd z (by omega), fun _ => ⟨fun z => ?_, fun z => ⟨fun z2 => ?_, fun z2 => ?_⟩⟩⟩
      · rw [bI_ne z, Bool.true_or] at hn'; exact hn'
      · rw [(bI_0 _).mp z, Bool.false_or] at hn'
        have e : aFull A j = false := by unfold aFull; simp [z2]
        rw [e, Bool.false_and] at hn'; exact hn'
      · rw [(bI_0 _).mp z, Bool.false_or] at hn'
        have e : aFull A j = true := by unfold aFull; simp [z2]
        rw [e, Bool.true_and] at hn'
        rw [eM_some z2]
        simp (disch := omega) only [z_rem, z_eq]
        refine ⟨fun z3 => ?_, fun z3 => ?_⟩
        · have e : (A (60 + j) % 26 == m) = false := by simp [z3]
          rw [e] at hn'; exact hn'
        · have e : (A (60 + j) % 26 == m) = true := by simp [z3]
          rw [e] at hn'; exact hn'
theorem t_attaches {i : Nat} (hS : SV M A) (hO : aOK A) (hi : i < 10) (hq : ∀ M', SV M' (pAtt A i).1 → (∀ p, p ≠ 51 → M' p = M p) → M' 51 146 = M 51 146 → Q (nI (pAtt A i).2) M') : wX4_attaches M (nI i) Q := by
  have h1 := hS.2.2.2.2.1
  have b0 := hO.1 0 (by omega)
  have h6 := pSlot_6 b0
  have v0 := hS.1 0 (by omega)
  have e0 : (0 : Int32).toNatClampNeg = 0 := rfl
  have g0 : vp_in 0 147 := (z_in (a := 0) (by omega) (by omega)).mpr (by omega)
  have hf : pName A ≤ 6 := aNm_free A 0
  unfold wX4_attaches
  refine z_loop (P := fun n j => (∀ k, k < j → (A (60 + k) == 260) = false) → lX4_attaches_2 (nI i) Q n M (nI j)) (aLists (A 0)) (fun n hb => ?_) (fun n j hj hn hb => ?_) |>.imp fun n h => h (fun k hk => absurd hk (Nat.not_lt_zero k))
  · unfold lX4_attaches_2
    dsimp only
    rw [e0, v0]
    refine ⟨g0, t_lists b0 ?_⟩
    simp (disch := omega) only [z_le, Nat.le_refl, true_implies, not_true, false_implies, and_true]
    have e : pAtt A i = (aWipe A i 0, 6) := by unfold pAtt; rw [if_neg (show ¬ pSlot A < aLists (A 0) from ff_none hb)]
    rw [e] at hq
    exact t_wipes (kd := 0) hS hi hq
  · have v := h1 j (by omega)
    have b := hO.2.2.2.2.1 j (by omega)
    have g : 60 + j < 147 := by omega
    unfold lX4_attaches_2
    dsimp only
    rw [e0, v0]
    refine ⟨g0, t_lists b0 ?_⟩
    simp (disch := omega) only [zl 60, zl 1, zl 26, zl 147, z_le, z_add, z_mul, z_in, z_cl, v, g, true_and, eM_n1]
    refine ⟨fun z => absurd z (by omega), fun _ => ⟨fun z => hn (lt_snoc hb (by simp [z])), fun z => ?_⟩⟩
    have e2 : pSlot A = j := ff_is (p := fun s => A (60 + s) == 260) hb (by simp [z]) hj
    have e : pAtt A i = (aUp A (60 + j) (26 * i + pName A), j) := by unfold pAtt; rw [e2, if_pos hj]
    rw [e] at hq
    refine t_leastName hS hO ?_
    rw [z_add]
    have s1 := SV_e (x := 26 * i + pName A) hS (show j < 60 by omega)
    rw [eM_some (by omega)] at s1
    exact hq _ s1 (fun p hp => xup_n hp) (by rw [xup_at, upd, if_neg (by omega)])
/-- one turn of the reference's going through all slots -/
def gS (A : Nat → Nat) (f : Nat → Bool) (S : Nat → Bool) (k : Nat) : Nat → Bool := fun t => S t || (S (k / 6) && (aEnt A t k && f t))
def gI (A : Nat → Nat) (f : Nat → Bool) (S : Nat → Bool) : Nat → Nat → Bool
  | 0 => S
  | k + 1 => gS A f (gI A f S k) k
/-- closed under entries to those of f -/
def gC (A : Nat → Nat) (f : Nat → Bool) (S : Nat → Bool) : Prop := ∀ k t, k < 60 → S (k / 6) = true → aEnt A t k = true → f t = true → S t = true
theorem gI_up {f S : Nat → Bool} {k t : Nat} : ∀ d, gI A f S k t = true → gI A f S (k + d) t = true
  | 0, h => h
  | d + 1, h => by
    have := gI_up d h
    show gS A f (gI A f S (k + d)) (k + d) t = true
    unfold gS; rw [this]; rfl
theorem gI_sound {f S C : Nat → Bool} (hC : gC A f C) (hS : ∀ t, S t = true → C t = true) : ∀ k, k ≤ 60 → ∀ t, gI A f S k t = true → C t = true
  | 0, _, t, h => hS t h
  | k + 1, hk, t, h => by
    have ih := gI_sound hC hS k (by omega)
    have h' : gS A f (gI A f S k) k t = true := h
    unfold gS at h'
    rw [Bool.or_eq_true, Bool.and_eq_true, Bool.and_eq_true] at h'
    rcases h' with q | ⟨q1, q2, q3⟩
    · exact ih t q
    · exact hC k t (by omega) (ih _ q1) q2 q3
theorem gI_closed {f S : Nat → Bool} (hO : aOK A) (h : ∀ t, t < 10 → gI A f S 60 t = true → S t = true) : gC A f S := fun k t hk h1 h2 h3 => by
  have a1 : gI A f S k (k / 6) = true := by
    have := gI_up (A := A) (f := f) (k := 0) k h1
    rw [Nat.zero_add] at this; exact this
  have a2 : gI A f S (k + 1) t = true := by
    show gS A f (gI A f S k) k t = true
    unfold gS; rw [a1, h2, h3]; simp
  have a3 := gI_up (A := A) (f := f) (60 - (k + 1)) a2
  rw [show k + 1 + (60 - (k + 1)) = 60 by omega] at a3
  refine h t ?_ a3
  have b := hO.2.2.2.2.1 k hk
  unfold aEnt at h2
  simp only [Bool.and_eq_true, Bool.not_eq_true', beq_eq_false_iff_ne, beq_iff_eq] at h2
  omega
theorem ct_grow {p q : Nat → Bool} : ∀ {n : Nat}, (∀ k, k < n → p k = true → q k = true) → (∃ k, k < n ∧ q k = true ∧ p k = false) → fb_ct p n < fb_ct q n
  | 0, _, h => by obtain ⟨k, h, _⟩ := h; omega
  | n + 1, hs, ⟨k, hk, h1, h2⟩ => by
    rw [fb_ct_succ, fb_ct_succ]
    have a := fb_ct_sub (n := n) (fun k hk => hs k (by omega))
    rcases Nat.lt_or_ge k n with z | z
    · have b := ct_grow (n := n) (fun k hk => hs k (by omega)) ⟨k, z, h1, h2⟩
      have c := hs n (by omega)
      cases hp : p n with
      | false => simp; omega
      | true => rw [c hp]; simp; omega
    · have e : k = n := by omega
      subst e
      rw [h1, h2]; simp; omega
theorem t_reached {i : Nat} {d : Bool} (hS : SV M A) (hO : aOK A) (hi : i < 10) (hq : ∀ S, S i = true → (∀ C : Nat → Bool, C i = true → gC A (fun t => !d || aDir A t) C → ∀ t, t < 10 → S t = true → C t = true) → gC A (fun t => !d || aDir A t) S → Q (bs S 10) M) : wX4_reached M (nI i) (bI d) Q := by
  have h1 := hS.2.2.2.2.1
  obtain ⟨f, hf⟩ : ∃ f : Nat → Bool, f = fun t => !d || aDir A t := ⟨_, rfl⟩
  rw [← hf] at hq
  -- one going through
  have pass : ∀ (S : Nat → Bool) (k7 : xM → Int32 → Int32 → Prop) (a4 : Int32), k7 M (bs (gI A f S 60) 10) a4 → ∃ n, lX4_reached_19 (nI i) (bI d) Q k7 n M (bs S 10) a4 0 := by
    intro S k7 a4 hk
    refine z_loop (P := fun n j => lX4_reached_19 (nI i) (bI d) Q k7 n M (bs (gI A f S j) 10) a4 (nI j)) 60 (fun n => ?_) (fun n j hj hn => ?_)
    · unfold lX4_reached_19
      simp (disch := omega) only [zl 60, z_le, Nat.le_refl, true_implies, not_true, false_implies, and_true]
      exact hk
    · have hn' : lX4_reached_19 (nI i) (bI d) Q k7 n M (bs (gI A f S j) 10 ||| bs (fun t => gI A f S j (j / 6) && (aEnt A t j && f t)) 10) a4 (nI (j + 1)) := by
        rw [bs_or _ _ (by omega)]; exact hn
      generalize hG : gI A f S j = G at hn'
      have v := h1 j hj
      have b := hO.2.2.2.2.1 j hj
      have g : 60 + j < 147 := by omega
      have tst := bs_test G (n := 10) (i := j / 6) (by omega) (by omega)
      have no : (∀ t, t < 10 → (G (j / 6) && (aEnt A t j && f t)) = false) → lX4_reached_19 (nI i) (bI d) Q k7 n M (bs G 10 ||| 0) a4 (nI (j + 1)) := fun hz => by
        rw [show (0 : Int32) = bs (fun t => G (j / 6) && (aEnt A t j && f t)) 10 from ((bs_zero (by omega)).mpr hz).symm]
        exact hn'
      unfold lX4_reached_19 wX4_reached_57 wX4_reached_58 wX4_reached_82 wX4_reached_103 wX4_reached_110 wX4_reached_111
      dsimp only
      simp (disch := omega) only [zl 60, zl 6, zl 147, z_le, z_add, z_in, z_cl, z_div, v, g, true_and, tst, nI_1]
      refine ⟨fun z => absurd z (by omega), fun _ => ⟨fun z => ⟨fun _ => ⟨fun _ => no (fun t _ => ?_), fun z2 => absurd trivial z2⟩, fun z2 => absurd trivial z2⟩, fun z => ?_⟩⟩
      · cases hg : G (j / 6) with
        | false => rfl
        | true => rw [hg] at z; exact absurd rfl z
      · have hg : G (j / 6) = true := by
          cases hg : G (j / 6) with
          | true => rfl
          | false => rw [hg] at z; exact absurd z (by decide)
        rw [hg] at hn' no
        simp (disch := omega) only [eM_m1]
        refine ⟨fun z2 => ⟨fun _ => ⟨fun _ => no (fun t _ => ?_), fun z2 => absurd trivial z2⟩, fun z2 => absurd trivial z2⟩, fun z2 => ⟨fun z3 => absurd z3 (by decide), fun _ => ⟨fun z3 => absurd z3 (by decide), fun _ => ?_⟩⟩⟩
        · unfold aEnt; simp [z2]
        · rw [eM_some z2]
          simp (disch := omega) only [zl 26, z_div]
          have he := bs_en z2 b
          have hen : ∀ t, aEnt A t j = true → t = A (60 + j) / 26 := fun t ht => by
            unfold aEnt at ht
            simp only [Bool.and_eq_true, beq_iff_eq] at ht
            exact ht.2.symm
          have yes : f (A (60 + j) / 26) = true → lX4_reached_19 (nI i) (bI d) Q k7 n M (bs G 10 ||| (1 : Int32) <<< (nI (A (60 + j) / 26) &&& 31)) a4 (nI (j + 1)) := fun hz => by
            rw [← he]
            have e : bs (fun t => aEnt A t j) 10 = bs (fun t => true && (aEnt A t j && f t)) 10 := bs_cong fun t _ => by
              cases ht : aEnt A t j with
              | false => rfl
              | true => rw [hen t ht, hz]; rfl
            rw [e]; exact hn'
          refine ⟨fun z3 => yes (by rw [hf, (bI_0 _).mp z3]; rfl), fun z3 => ?_⟩
          refine t_isDirectory hS hO (by omega) ⟨fun z4 => no (fun t _ => ?_), fun z4 => yes (by rw [hf]; show (!d || aDir A _) = true; rw [bI_ne z4]; simp)⟩
          cases ht : aEnt A t j with
          | false => rfl
          | true => rw [hen t ht, hf]; show (true && (true && (!d || aDir A _))) = false; rw [bI_ne z3, (bI_0 _).mp z4]; rfl
  -- until nothing is new
  have all : ∀ dd (S : Nat → Bool), S i = true → (∀ C : Nat → Bool, C i = true → gC A f C → ∀ t, S t = true → C t = true) → 10 ≤ fb_ct S 10 + dd → ∃ n, lX4_reached_7 (nI i) (bI d) Q n M (bs (gI A f S 60) 10) (bs S 10) := by
    intro dd
    induction dd with
    | zero =>
      intro S s1 s2 s3
      have hall : ∀ k, k < 10 → S k = true := fb_ct_all.mp (by have := fb_ct_le S 10; omega)
      have cl : gC A f S := gI_closed hO (fun t ht _ => hall t ht)
      have e : bs (gI A f S 60) 10 = bs S 10 := bs_cong fun t ht => by
        rw [hall t ht]
        have := gI_up (A := A) (f := f) (k := 0) 60 (hall t ht)
        exact this
      refine ⟨1, ?_⟩
      unfold lX4_reached_7
      rw [e]
      exact ⟨fun _ => hq S s1 (fun C c1 c2 t _ h => s2 C c1 c2 t h) cl, fun z => absurd rfl z⟩
    | succ dd ih =>
      intro S s1 s2 s3
      have up : ∀ t, S t = true → gI A f S 60 t = true := fun t h => gI_up (A := A) (f := f) (k := 0) 60 h
      by_cases e : bs (gI A f S 60) 10 = bs S 10
      · have cl : gC A f S := gI_closed hO (fun t ht h => by rw [← bs_inj (by omega) e ht]; exact h)
        refine ⟨1, ?_⟩
        unfold lX4_reached_7
        rw [e]
        exact ⟨fun _ => hq S s1 (fun C c1 c2 t _ h => s2 C c1 c2 t h) cl, fun z => absurd rfl z⟩
      · have gr : fb_ct S 10 < fb_ct (gI A f S 60) 10 := by
          refine ct_grow (fun t _ => up t) ?_
          refine Classical.byContradiction fun hn => e (bs_cong fun t ht => ?_)
          cases h : S t with
          | true => exact up t h
          | false =>
            cases h2 : gI A f S 60 t with
            | false => rfl
            | true => exact absurd ⟨t, ht, h2, h⟩ hn
        obtain ⟨n, hn⟩ := ih (gI A f S 60) (up i s1) (fun C c1 c2 t h => gI_sound c2 (s2 C c1 c2) 60 (by omega) t h) (by omega)
        refine ⟨n + 1, ?_⟩
        unfold lX4_reached_7
        exact ⟨fun z => absurd z e, fun _ => pass _ _ _ hn⟩
  have hone : (1 : Int32) <<< (nI i &&& 31) = bs (fun t => decide (t = i)) 10 := bs_one (by omega) hi
  unfold wX4_reached
  rw [hone]
  obtain ⟨n, hn⟩ := all 10 (fun t => decide (t = i)) (by simp) (fun C c1 _ t h => by
    have : t = i := of_decide_eq_true h
    rw [this]; exact c1) (by omega)
  refine ⟨n + 1, ?_⟩
  unfold lX4_reached_7
  refine ⟨fun z => absurd ((bs_zero (by omega)).mp z i hi) (by simp), fun _ => pass _ _ _ hn⟩
end RT
