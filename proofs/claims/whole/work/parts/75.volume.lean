/-! letter by letter: a VOLUME -/
section T5
variable {M : xM} {s : Nat → Nat} {nl : Nat} {A : Nat → Nat} {rf : Nat → Bool}
theorem strS_s (s : Nat → Nat) (k : Nat) : strS s (k + 1) = if strS s k < k then strS s k else if (!stdS s (posS s k)) = true then k else k + 1 := rfl
theorem strS_le (s : Nat → Nat) (k : Nat) : strS s k ≤ k := fa_first_le _ k
theorem posS_s (s : Nat → Nat) (k : Nat) : posS s (k + 1) = nxtS s (posS s k) := rfl
/-- k statements read -/
def tAt (M : xM) (s : Nat → Nat) (k : Nat) : Prop := M 50 8 = nI (posS s k) ∧ M 50 9 = 0 ∧ M 50 10 = if strS s k < k then nI (posS s (strS s k)) else -1
theorem t_pass1 {m : Nat} {Q : Int32 → xM → Prop} (hT : TR M s nl) (hS : SV M A) (hO : aOK A) (h6 : M 51 146 = bs rf 17) (hE : endS s nl m) (h0 : 0 < nl)
    (hq : ∀ M1 r, SV M1 A → M1 51 146 = bs rf 17 → dOff M M1 → (posS s m < nl → M1 50 9 = 1 ∧ M1 50 8 = nI (stpS s nl (posS s m))) → (¬ posS s m < nl → tAt M1 s m ∧ r = nI m) → Q r M1) : wX4_goesThrough M 0 Q := by
  have h1 := hT.1
  have pb := posS_b h1 hE
  obtain ⟨e1, e2, e3⟩ := hE
  have step : ∀ (k : Nat) (M1 : xM) (K : xM → Prop), posS s k < nl → SV M1 A → M1 51 146 = bs rf 17 → dOff M M1 → tAt M1 s k → (∀ M2, tFin M1 s nl (posS s k) A rf M2 → K M2) → wX4_states M1 0 K := fun k M1 K hk s1 t1 d1 a1 hK =>
    t_states (TR_d hT d1) s1 hO t1 hk a1.1 a1.2.1 (Or.inl rfl) (fun M2 f2 => hK M2 (by rw [if_pos rfl] at f2; exact f2))
  have stop : ∀ (n : Nat) (M1 : xM) (c : Int32), M1 50 9 = 1 → lX4_goesThrough_17 0 Q (n + 1) M1 c = lX4_goesThrough_17 0 Q (n + 1) M1 c → Q c M1 → lX4_goesThrough_17 0 Q (n + 1) M1 c := fun n M1 c h9 _ h => by
    unfold lX4_goesThrough_17 wX4_goesThrough_50
    dsimp only
    rw [h9]
    exact ⟨fun _ => h, fun z => absurd z (by decide)⟩
  unfold wX4_goesThrough
  have key := z_loop (P := fun n k => ∀ M1, SV M1 A → M1 51 146 = bs rf 17 → dOff M M1 → tAt M1 s k → lX4_goesThrough_17 0 Q (n + 1) M1 (nI k)) m (fun n M1 s1 t1 d1 a1 => ?_) (fun n k hk hn M1 s1 t1 d1 a1 => ?_)
  · obtain ⟨n, hn⟩ := key
    refine ⟨n + 1, hn _ (SV_same hS ?_) ?_ ⟨fun p a _ _ _ _ _ => ?_, fun k a b c _ _ => ?_⟩ ⟨?_, ?_, ?_⟩⟩
    · rw [xup_n (by omega), xup_n (by omega), xup_n (by omega)]
    · rw [xup_n (by omega), xup_n (by omega), xup_n (by omega)]; exact h6
    · rw [xup_n a, xup_n a, xup_n a]
    · rw [xup_at, upd, if_neg c, xup_at, upd, if_neg b, xup_at, upd, if_neg a]
    · rw [xup_at, upd, if_neg (by omega), xup_at, upd, if_neg (by omega), xup_at, upd, if_pos rfl]; rfl
    · rw [xup_at, upd, if_neg (by omega), xup_at, upd, if_pos rfl]
    · rw [xup_at, upd, if_pos rfl, if_neg (Nat.not_lt_zero _)]
  · have b := pb m (Nat.le_refl m)
    have T1 := TR_d hT d1
    have go : posS s m < nl → wX4_goesThrough_39 0 Q (lX4_goesThrough_17 0 Q (n + 1)) M1 (nI m) := fun hlt => by
      unfold wX4_goesThrough_39
      refine step m M1 _ hlt s1 t1 d1 a1 (fun M2 f2 => ?_)
      have hno := e3 hlt
      have h9 : M2 50 9 = 1 := by rw [f2.2.1, hno]; rfl
      refine stop n M2 _ h9 rfl (hq M2 _ f2.2.2.2.1 f2.2.2.2.2.1 (dOff_tr d1 f2.2.2.2.2.2) (fun _ => ⟨h9, f2.1⟩) (fun z => absurd hlt z))
    have fin : ¬ posS s m < nl → Q (nI m) M1 := fun hge => hq M1 _ s1 t1 d1 (fun z => absurd z hge) (fun _ => ⟨a1, rfl⟩)
    unfold lX4_goesThrough_17 wX4_goesThrough_50
    dsimp only
    rw [a1.2.1, T1.2.1, a1.1, z_le (by omega) (by omega), show (nI m = (0 : Int32)) ↔ m = 0 from z_eq (b := 0) (by omega) (by omega)]
    refine ⟨fun z => absurd rfl z, fun _ => ⟨fun z => ?_, fun _ => ⟨fun z => fin (by omega), fun z => go (by omega)⟩⟩⟩
    subst z
    exact go h0
  · have hk2 := e2 k hk
    have b := pb k (by omega)
    have T1 := TR_d hT d1
    have go : wX4_goesThrough_39 0 Q (lX4_goesThrough_17 0 Q (n + 1)) M1 (nI k) := by
      unfold wX4_goesThrough_39
      refine step k M1 _ hk2.1 s1 t1 d1 a1 (fun M2 f2 => ?_)
      obtain ⟨g1, g2, g3, g4, g5, g6⟩ := f2
      have hsl := strS_le s k
      have hss := strS_s s k
      rw [nI_1]
      refine hn M2 g4 g5 (dOff_tr d1 g6) ⟨?_, ?_, ?_⟩
      · rw [g1, okS_stp hk2.2, posS_s]
      · rw [g2, hk2.2]; rfl
      · rw [g3 hk2.2, a1.2.2]
        by_cases z : strS s k < k
        · have hb := pb (strS s k) (by omega)
          rw [if_pos z] at hss
          rw [if_pos z, if_neg (fun q => ?_), hss, if_pos (by omega)]
          have := q.2
          rw [show (-1 : Int32) = -nI 1 from rfl, z_neq (by omega) (by omega) (by omega)] at this
          exact this
        · rw [if_neg z] at hss
          rw [if_neg z]
          cases w : stdS s (posS s k) with
          | false =>
            rw [w, if_pos (by rfl)] at hss
            rw [if_pos ⟨rfl, rfl⟩, hss, if_pos (by omega)]
          | true =>
            rw [w, if_neg (by decide)] at hss
            rw [if_neg (fun q => absurd q.1 (by decide)), hss, if_neg (by omega)]
    unfold lX4_goesThrough_17 wX4_goesThrough_50
    dsimp only
    rw [a1.2.1, T1.2.1, a1.1, z_le (by omega) (by omega)]
    exact ⟨fun z => absurd rfl z, fun _ => ⟨fun _ => go, fun _ => ⟨fun z => absurd z (by omega), fun _ => go⟩⟩⟩
/-- the statements done, one behind the other -/
def pTx (rf : Nat → Bool) (s : Nat → Nat) (A : Nat → Nat) : Nat → Nat → Nat
  | 0 => A
  | k + 1 => pSt rf s (posS s k) (pTx rf s A k)
theorem pTx_s (rf : Nat → Bool) (s : Nat → Nat) (A : Nat → Nat) (k : Nat) : pTx rf s A (k + 1) = pSt rf s (posS s k) (pTx rf s A k) := rfl
theorem pTx_ok {m : Nat} (hO : aOK A) (hE : endS s nl m) (hd : ∀ k, k < m → stdS s (posS s k) = true) : ∀ k, k ≤ m → aOK (pTx rf s A k)
  | 0, _ => hO
  | k + 1, hk => by
    rw [pTx_s]
    exact pSt_ok (pTx_ok hO hE hd k (by omega)) (hE.2.1 k (by omega)).2 (hd k (by omega))
theorem t_pass2 {m : Nat} {Q : Int32 → xM → Prop} (hT : TR M s nl) (hS : SV M A) (hO : aOK A) (h6 : M 51 146 = bs rf 17) (hE : endS s nl m) (h0 : 0 < nl) (hA : ¬ posS s m < nl) (hd : ∀ k, k < m → stdS s (posS s k) = true)
    (hq : ∀ M1 r, SV M1 (pTx rf s A m) → M1 51 146 = bs rf 17 → dOff M M1 → Q r M1) : wX4_goesThrough M 1 Q := by
  have h1 := hT.1
  have pb := posS_b h1 hE
  have ok := pTx_ok (rf := rf) hO hE hd
  obtain ⟨e1, e2, e3⟩ := hE
  have n1 : ¬ (1 : Int32) = 0 := by decide
  unfold wX4_goesThrough
  have key := z_loop (P := fun n k => ∀ M1, SV M1 (pTx rf s A k) → M1 51 146 = bs rf 17 → dOff M M1 → M1 50 8 = nI (posS s k) → M1 50 9 = 0 → lX4_goesThrough_17 1 Q n M1 (nI k)) m (fun n M1 s1 t1 d1 a8 a9 => ?_) (fun n k hk hn M1 s1 t1 d1 a8 a9 => ?_)
  · obtain ⟨n, hn⟩ := key
    refine ⟨n, hn _ (SV_same hS ?_) ?_ ⟨fun p a _ _ _ _ _ => ?_, fun k a b c _ _ => ?_⟩ ?_ ?_⟩
    · rw [xup_n (by omega), xup_n (by omega), xup_n (by omega)]
    · rw [xup_n (by omega), xup_n (by omega), xup_n (by omega)]; exact h6
    · rw [xup_n a, xup_n a, xup_n a]
    · rw [xup_at, upd, if_neg c, xup_at, upd, if_neg b, xup_at, upd, if_neg a]
    · rw [xup_at, upd, if_neg (by omega), xup_at, upd, if_neg (by omega), xup_at, upd, if_pos rfl]; rfl
    · rw [xup_at, upd, if_neg (by omega), xup_at, upd, if_pos rfl]
  · have b := pb m (Nat.le_refl m)
    have T1 := TR_d hT d1
    unfold lX4_goesThrough_17 wX4_goesThrough_50
    dsimp only
    rw [a9, T1.2.1, a8, z_le (by omega) (by omega), show (nI m = (0 : Int32)) ↔ m = 0 from z_eq (b := 0) (by omega) (by omega)]
    refine ⟨fun z => absurd rfl z, fun _ => ⟨fun z => ?_, fun _ => ⟨fun z => hq M1 _ s1 t1 d1, fun z => absurd (by omega) z⟩⟩⟩
    subst z
    exact absurd h0 hA
  · have hk2 := e2 k hk
    have b := pb k (by omega)
    have T1 := TR_d hT d1
    have go : wX4_goesThrough_39 1 Q (lX4_goesThrough_17 1 Q n) M1 (nI k) := by
      unfold wX4_goesThrough_39
      refine t_states T1 s1 (ok k (by omega)) t1 hk2.1 a8 a9 (Or.inr ⟨rfl, hk2.2, hd k hk⟩) (fun M2 f2 => ?_)
      obtain ⟨g1, g2, g3, g4, g5, g6⟩ := f2
      rw [if_neg n1, ← pTx_s] at g4
      rw [nI_1]
      refine hn M2 g4 g5 (dOff_tr d1 g6) ?_ ?_
      · rw [g1, okS_stp hk2.2, posS_s]
      · rw [g2, hk2.2]; rfl
    unfold lX4_goesThrough_17 wX4_goesThrough_50
    dsimp only
    rw [a9, T1.2.1, a8, z_le (by omega) (by omega)]
    exact ⟨fun z => absurd rfl z, fun _ => ⟨fun _ => go, fun _ => ⟨fun z => absurd z (by omega), fun _ => go⟩⟩⟩
/-- no letters -/
theorem t_pass0 {Q : Int32 → xM → Prop} (hT : TR M s 0) (hq : ∀ M1 r, M1 50 9 = 1 → M1 50 8 = nI 0 → nOff M M1 → Q r M1) : wX4_goesThrough M 0 Q := by
  unfold wX4_goesThrough
  obtain ⟨N, hN⟩ : ∃ N, N = xup (xup (xup M 50 8 0) 50 9 0) 50 10 (-1) := ⟨_, rfl⟩
  rw [← hN]
  have n8 : N 50 8 = nI 0 := by rw [hN, xup_at, upd, if_neg (by omega), xup_at, upd, if_neg (by omega), xup_at, upd, if_pos rfl]; rfl
  have n9 : N 50 9 = 0 := by rw [hN, xup_at, upd, if_neg (by omega), xup_at, upd, if_pos rfl]
  have oN : nOff M N := by
    rw [hN]
    exact ⟨fun p a => by rw [xup_n a, xup_n a, xup_n a], fun k a b c => by rw [xup_at, upd, if_neg c, xup_at, upd, if_neg b, xup_at, upd, if_neg a]⟩
  have TN : TR N s 0 := TR_same hT (oN.2 7 (by omega) (by omega) (by omega)) (oN.1 55 (by omega))
  refine ⟨2, ?_⟩
  have go : wX4_goesThrough_39 0 Q (lX4_goesThrough_17 0 Q 1) N 0 := by
    unfold wX4_goesThrough_39 wX4_states
    refine t_here TN n8 (by omega) ?_
    rw [if_neg (Nat.lt_irrefl 0)]
    refine ⟨fun z => absurd z (by decide), fun _ => ⟨fun z => absurd z (by decide), fun _ => ⟨fun z => absurd z (by decide), fun _ => ⟨fun z => absurd z (by decide), fun _ => ⟨fun z => absurd z (by decide), fun _ => ⟨fun z => absurd z (by decide), fun _ => ⟨fun z => absurd z (by decide), fun _ => ⟨fun z => absurd z (by decide), fun _ => ?_⟩⟩⟩⟩⟩⟩⟩⟩
    rw [n8, show nI 0 + (1 : Int32) = nI 1 from rfl]
    have a8 : xup N 50 8 (nI 1) 50 8 = nI 1 := by rw [xup_at, upd, if_pos rfl]
    rw [a8, show nI 1 - (1 : Int32) = nI 0 from by decide]
    have o5 : oOff N (xup (xup (xup N 50 8 (nI 1)) 50 8 (nI 0)) 50 9 1) := oOff_tr (oOff_tr (oOff_up (by omega)) (oOff_up (by omega))) (oOff_up (by omega))
    have b8 : xup (xup (xup N 50 8 (nI 1)) 50 8 (nI 0)) 50 9 1 50 8 = nI 0 := by rw [xup_at, upd, if_neg (by omega), xup_at, upd, if_pos rfl]
    have b9 : xup (xup (xup N 50 8 (nI 1)) 50 8 (nI 0)) 50 9 1 50 9 = 1 := by rw [xup_at, upd, if_pos rfl]
    unfold wX4_states_540 wX4_one
    refine t_here (TR_d TN (dOff_n (nOff_o o5))) b8 (by omega) ?_
    rw [b9]
    refine ⟨fun _ => t_one22 b8 (fun M1 c8 c9 o1 => ?_), fun z => absurd z (by decide)⟩
    unfold lX4_goesThrough_17 wX4_goesThrough_50
    dsimp only
    rw [c9]
    exact ⟨fun _ => hq M1 _ c9 c8 (nOff_tr oN (nOff_tr (nOff_o o5) (nOff_o o1))), fun z => absurd z (by decide)⟩
  unfold lX4_goesThrough_17
  dsimp only
  rw [n9]
  exact ⟨fun z => absurd rfl z, fun _ => ⟨fun _ => go, fun z => absurd rfl z⟩⟩
/-- a VOLUME's end: the letters are no more -/
theorem inv_vol {M1 M2 : xM} {B : Nat → Nat} (h : IR M) (c : cOff M M1) (d : dOff (xup M1 46 1 0) M2) (cv : CV M1 1 B) (hO : aOK B) (hr : rfOK rf) (c1 : M1 0 11 = bs rf 17) (sv : SV M2 B) (s6 : M2 51 146 = bs rf 17) : Inv (xup M2 50 7 0) := by
  have e : ∀ p, p ≤ 49 → p ≠ 46 → xup M2 50 7 0 p = M1 p := fun p hp hn => by
    rw [xup_n (by omega), d.1 p (by omega) (by omega) (by omega) (by omega) (by omega) (by omega), xup_n hn]
  have e2 : ∀ p, p = 52 ∨ p = 54 ∨ p = 55 ∨ p = 59 → xup M2 50 7 0 p = M1 p := fun p hp => by
    rw [xup_n (by omega), d.1 p (by omega) (by omega) (by omega) (by omega) (by omega) (by omega), xup_n (by omega)]
  have ec : ∀ p, (15 ≤ p ∧ p ≤ 21) ∨ (47 ≤ p ∧ p ≤ 49) ∨ p = 52 ∨ p = 54 ∨ p = 55 ∨ p = 59 → xup M2 50 7 0 p = M p := fun p hp => by
    rcases (show p ≤ 49 ∧ p ≠ 46 ∨ (p = 52 ∨ p = 54 ∨ p = 55 ∨ p = 59) by omega) with q | q
    · rw [e p q.1 q.2]; exact c.1 p (by omega) (by omega) (by omega)
    · rw [e2 p q]; exact c.1 p (by omega) (by omega) (by omega)
  have z0 : ∀ k, k ≠ 11 → k ≠ 12 → xup M2 50 7 0 0 k = M 0 k := fun k a b => by rw [e 0 (by omega) (by omega)]; exact c.2 k a b
  have z5 : ∀ j, j ≠ 7 → j ≠ 8 → j ≠ 9 → j ≠ 10 → j ≠ 14 → j ≠ 17 → xup M2 50 7 0 50 j = M 50 j := fun j a b c' d' e' f' => by
    rw [xup_at, upd, if_neg a, d.2 j b c' d' e' f', xup_n (by omega), c.1 50 (by omega) (by omega) (by omega)]
  have e46 : xup M2 50 7 0 46 1 = 0 := by
    rw [xup_n (by omega), d.1 46 (by omega) (by omega) (by omega) (by omega) (by omega) (by omega), xup_at, upd, if_pos rfl]
  obtain ⟨h1, h2, h3, h4⟩ := h
  refine ⟨⟨IRt_eq h1 (fun p hp => ec p (by omega)) (z0 3 (by omega) (by omega)) (z0 4 (by omega) (by omega)) (z5 4 (by omega) (by omega) (by omega) (by omega) (by omega) (by omega)), IRr_eq h2 (z0 9 (by omega) (by omega)) (z5 16 (by omega) (by omega) (by omega) (by omega) (by omega) (by omega)) (ec 48 (by omega)) (ec 59 (by omega)), ⟨0, by omega, e46, by rw [xup_at, upd, if_pos rfl]; rfl, fun j hj => absurd hj (Nat.not_lt_zero j)⟩, IRc_eq h4 (ec 49 (by omega)) (ec 54 (by omega))⟩, B, rf, CV_same cv fun t ht => e _ (by omega) (by omega), hO, hr, ?_, SV_same sv (xup_n (by omega)), ?_⟩
  · rw [e 0 (by omega) (by omega)]; exact c1
  · rw [xup_n (by omega)]; exact s6
theorem fault_ne {a : Nat} (b : Nat) (h0 : 0 < b) (hb : b < 100000) (ha : a < 100000) : ¬ (-nI b) - nI a = (0 : Int32) := fun z => by
  rw [← Int32.neg_add, z_add, show (0 : Int32) = nI 0 from rfl, z_neq' (by omega) (by omega) (by omega)] at z
  exact z
theorem k_volume (h : Inv M) : wX3_volume M (fun r M1 => wX4_volume M1 (fun r2 M2 => r = r2 ∧ Inv M2)) := by
  obtain ⟨hR, A, rf, hV⟩ := h
  have hR0 := hR
  obtain ⟨_, _, ⟨nl, b1, b2, b3, b4⟩, _⟩ := hR
  obtain ⟨v1, v2, v3, v4, v5, v6⟩ := hV
  obtain ⟨s, hs⟩ : ∃ s : Nat → Nat, s = fun j => (M 47 j).toNatClampNeg := ⟨_, rfl⟩
  have hsj : ∀ j, j < nl → s j ≤ 255 ∧ M 47 j = nI (s j) ∧ M 55 j = nI (s j) := fun j hj => by
    obtain ⟨x, x1, x2, x3⟩ := b4 j hj
    have e : s j = x := by rw [hs]; show (M 47 j).toNatClampNeg = x; rw [x2, z_cl (by omega)]
    rw [e]; exact ⟨x1, x2, x3⟩
  have hX : TX M s nl := ⟨b1, b2, fun j hj => ⟨(hsj j hj).1, (hsj j hj).2.1⟩⟩
  have hT : TR M s nl := ⟨b1, b3, fun j hj => ⟨(hsj j hj).1, (hsj j hj).2.2⟩⟩
  -- what the class leaves for the reference
  have TRc : ∀ M1, cOff M M1 → TR (xup M1 46 1 0) s nl ∧ SV (xup M1 46 1 0) A ∧ xup M1 46 1 0 51 146 = bs rf 17 := fun M1 c1 => by
    refine ⟨TR_same hT ?_ ?_, SV_same v5 ?_, ?_⟩
    · rw [xup_n (by omega), c1.1 50 (by omega) (by omega) (by omega)]
    · rw [xup_n (by omega), c1.1 55 (by omega) (by omega) (by omega)]
    · rw [xup_n (by omega), c1.1 51 (by omega) (by omega) (by omega)]
    · rw [xup_n (by omega), c1.1 51 (by omega) (by omega) (by omega)]; exact v6
  unfold wX3_volume
  by_cases h0 : 0 < nl
  · obtain ⟨m, hE⟩ := endS_ex s b1
    have pb := posS_b b1 hE
    refine r_fault hX hE h0 ?_
    by_cases hA : posS s m < nl
    · -- a wrong letter
      have eF : fltS s nl m = -1000 - nI (stpS s nl (posS s m)) := by unfold fltS; rw [if_pos hA]
      have hb : stpS s nl (posS s m) ≤ posS s m + 6 := stpS_b
      have nz : ¬ fltS s nl m = 0 := by rw [eF]; exact fault_ne 1000 (by omega) (by omega) (by omega)
      refine ⟨1, ?_⟩
      unfold lX3_volume_12 wX3_volume_55 wX3_volume_72
      dsimp only
      refine ⟨fun _ => ⟨fun _ => ?_, fun z => absurd z nz⟩, fun z => absurd z nz⟩
      obtain ⟨T1, S1, t1⟩ := TRc M cOff_rf
      unfold wX4_volume wX4_volume_21 wX4_volume_47
      refine t_pass1 T1 S1 v2 t1 hE h0 (fun M2 r s2 t2 d2 f2 _ => ?_)
      obtain ⟨g9, g8⟩ := f2 hA
      rw [g9, g8]
      refine ⟨fun _ => ⟨fun z => absurd z (by decide), fun _ => ⟨eF, inv_vol hR0 cOff_rf d2 v1 v2 v3 v4 s2 t2⟩⟩, fun z => absurd z (by decide)⟩
    · by_cases hS : strS s m < m
      · -- a wrong statement
        have eF : fltS s nl m = -2000 - nI (posS s (strS s m)) := by unfold fltS; rw [if_neg hA, if_pos hS]
        have hb := pb (strS s m) (by omega)
        have nz : ¬ fltS s nl m = 0 := by rw [eF]; exact fault_ne 2000 (by omega) (by omega) (by omega)
        refine ⟨1, ?_⟩
        unfold lX3_volume_12 wX3_volume_55 wX3_volume_72
        dsimp only
        refine ⟨fun _ => ⟨fun _ => ?_, fun z => absurd z nz⟩, fun z => absurd z nz⟩
        obtain ⟨T1, S1, t1⟩ := TRc M cOff_rf
        unfold wX4_volume wX4_volume_21 wX4_volume_47
        refine t_pass1 T1 S1 v2 t1 hE h0 (fun M2 r s2 t2 d2 _ f2 => ?_)
        obtain ⟨⟨g8, g9, g10⟩, er⟩ := f2 hA
        rw [if_pos hS] at g10
        have ne : ¬ nI (posS s (strS s m)) = (-1 : Int32) := fun z => by
          rw [show (-1 : Int32) = -nI 1 from rfl, z_neq (by omega) (by omega) (by omega)] at z; exact z
        have fin := inv_vol hR0 cOff_rf d2 v1 v2 v3 v4 s2 t2
        rw [g9, g10]
        exact ⟨fun z => absurd rfl z, fun _ => ⟨fun z => absurd z ne, fun _ => ⟨fun _ => ⟨eF, fin⟩, fun z => absurd rfl z⟩⟩⟩
      · -- all of it is right
        have eF : fltS s nl m = 0 := by unfold fltS; rw [if_neg hA, if_neg hS]
        have hd : ∀ k, k < m → stdS s (posS s k) = true := fun k hk => by
          have hl := strS_le s m
          have := fa_first_no (fun k => !stdS s (posS s k)) m k (by unfold strS at hS hl; omega)
          rw [Bool.not_eq_false'] at this; exact this
        have ok := pTx_ok (rf := rf) v2 hE hd
        rw [eF]
        have fin : ∀ M1, CV M1 1 (pTx rf s A m) → cOff M M1 → M1 0 11 = bs rf 17 → wX3_volume_55 (fun r M1 => wX4_volume M1 (fun r2 M2 => r = r2 ∧ Inv M2)) M1 0 (nI m) := fun M1 w1 c1 w4 => by
          unfold wX3_volume_55 wX3_volume_72
          refine ⟨fun z => absurd rfl z, fun _ => ?_⟩
          obtain ⟨T1, S1, t1⟩ := TRc M1 c1
          unfold wX4_volume wX4_volume_21 wX4_volume_47
          refine t_pass1 T1 S1 v2 t1 hE h0 (fun M2 r s2 t2 d2 _ f2 => ?_)
          obtain ⟨⟨g8, g9, g10⟩, er⟩ := f2 hA
          rw [if_neg hS] at g10
          rw [g9, g10]
          refine ⟨fun z => absurd rfl z, fun _ => ⟨fun _ => ?_, fun z => absurd rfl z⟩⟩
          exact t_pass2 (TR_d T1 d2) s2 v2 t2 hE h0 hA hd (fun M3 r3 s3 t3 d3 => ⟨er.symm, inv_vol hR0 c1 (dOff_tr d2 d3) w1 (ok m (Nat.le_refl m)) v3 w4 s3 t3⟩)
        have key := z_loop (P := fun n k => ∀ M1, CV M1 1 (pTx rf s A k) → cOff M M1 → M1 0 11 = bs rf 17 → lX3_volume_12 (fun r M1 => wX4_volume M1 (fun r2 M2 => r = r2 ∧ Inv M2)) n M1 0 (nI k) (nI (posS s k))) m (fun n M1 w1 c1 w4 => ?_) (fun n k hk hn M1 w1 c1 w4 => ?_)
        · obtain ⟨n, hn⟩ := key
          exact ⟨n, hn M v1 cOff_rf v4⟩
        · have X1 : TX M1 s nl := TX_same hX (cOff_51 c1 46 (by omega)) (cOff_51 c1 47 (by omega))
          have b := pb m (Nat.le_refl m)
          unfold lX3_volume_12
          dsimp only
          rw [X1.2.1, z_le (by omega) (by omega)]
          exact ⟨fun _ => fin M1 w1 c1 w4, fun _ => ⟨fun _ => fin M1 w1 c1 w4, fun z => absurd (by omega) z⟩⟩
        · have X1 : TX M1 s nl := TX_same hX (cOff_51 c1 46 (by omega)) (cOff_51 c1 47 (by omega))
          have hk2 := hE.2.1 k hk
          have b := pb k (by omega)
          have hm := hE.1
          unfold lX3_volume_12
          dsimp only
          rw [X1.2.1, z_le (by omega) (by omega), show (96 : Int32) = nI 96 from rfl, z_le (by omega) (by omega), nI_1]
          refine ⟨fun z => absurd rfl z, fun _ => ⟨fun z => absurd z (by omega), fun _ => ⟨fun z => absurd z (by omega), fun _ => ?_⟩⟩⟩
          refine c_carry w1 (ok k (by omega)) w4 v3 X1 hk2.1 hk2.2 (hd k hk) (fun M2 w2 c2 w5 => ?_)
          have c12 := cOff_tr c1 c2
          refine r_lengthAt (TX_same hX (cOff_51 c12 46 (by omega)) (cOff_51 c12 47 (by omega))) hk2.1 ?_
          rw [nI_add]
          exact hn M2 w2 c12 w5
  · -- no letters
    have n0 : nl = 0 := by omega
    subst n0
    have nz : ¬ (-1000 - 0 : Int32) = 0 := by decide
    refine r_fault0 hX ⟨1, ?_⟩
    unfold lX3_volume_12 wX3_volume_55 wX3_volume_72
    dsimp only
    refine ⟨fun _ => ⟨fun _ => ?_, fun z => absurd z nz⟩, fun z => absurd z nz⟩
    obtain ⟨T1, S1, t1⟩ := TRc M cOff_rf
    unfold wX4_volume wX4_volume_21 wX4_volume_47
    refine t_pass0 T1 (fun M2 r g9 g8 o2 => ?_)
    rw [g9, g8]
    refine ⟨fun _ => ⟨fun z => absurd z (by decide), fun _ => ⟨rfl, inv_vol hR0 cOff_rf (dOff_n o2) v1 v2 v3 v4 (SV_same S1 (o2.1 51 (by omega))) ?_⟩⟩, fun z => absurd z (by decide)⟩
    rw [o2.1 51 (by omega)]; exact t1
end T5
