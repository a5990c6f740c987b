/-! the letters: the reference reads a statement, does it -/
section T4
variable {M : xM} {s : Nat → Nat} {nl : Nat} {A : Nat → Nat} {rf : Nat → Bool}
theorem f57 (x : Nat) : fit 59 x = decide (59 ≤ x ∧ x ≤ 59) := by
  unfold fit
  rw [if_neg (by decide), if_neg (by decide), if_neg (by decide), decide_eq_decide]
  omega
theorem stdS_any {st : Nat} (h1 : ¬ (s st = 98 ∨ s st = 109)) (h2 : ¬ (s st = 101 ∨ s st = 120)) (h3 : ¬ s st = 112) : stdS s st = true := by
  unfold stdS
  rw [if_neg h1, if_neg h2, if_neg h3]
/-- behind a statement -/
def tFin (M0 : xM) (s : Nat → Nat) (nl st : Nat) (B : Nat → Nat) (rf : Nat → Bool) (M : xM) : Prop := M 50 8 = nI (stpS s nl st) ∧ M 50 9 = bI (!okS s nl st) ∧ (okS s nl st = true → M 50 10 = if stdS s st = false ∧ M0 50 10 = -1 then nI st else M0 50 10) ∧ SV M B ∧ M 51 146 = bs rf 17 ∧ dOff M0 M
theorem t_540 {M0 : xM} {st L : Nat} {p1 : Int32} {B : Nat → Nat} {Q : xM → Prop} (hT : TR M s nl) (hs : st < nl) (hi : isSt (s st) = true) (hL : shLen (s st) = L) (hR : RS M s nl st L) (h10 : okS s nl st = true → M 50 10 = if stdS s st = false ∧ M0 50 10 = -1 then nI st else M0 50 10) (hS : SV M B) (h6 : M 51 146 = bs rf 17) (hd : dOff M0 M) (hq : ∀ M1, tFin M0 s nl st B rf M1 → Q M1) : wX4_states_540 p1 Q M := by
  have h1 := hT.1
  have hl := shLen_le (s st)
  subst hL
  unfold wX4_states_540
  refine t_sym (a := 59) (lo := 59) (hi := 59) hT (by omega) (by omega) (by unfold shAt; rw [if_neg (Nat.lt_irrefl _)]) (by omega) (by omega) f57 hR (fun M1 v r1 o1 _ => hq M1 ⟨?_, ?_, fun z => ?_, SV_same hS (o1.1 51 (by omega)), ?_, dOff_tr hd (dOff_n (nOff_o o1))⟩)
  · unfold stpS
    rw [if_pos hi]; exact r1.1
  · rw [r1.2]
    congr 1
    have h2 := fS_le s nl st (shLen (s st) + 1)
    unfold okS
    rw [hi, Bool.true_and]
    by_cases e : fS s nl st (shLen (s st) + 1) = shLen (s st) + 1
    · rw [decide_eq_true e, decide_eq_false (by omega)]; rfl
    · rw [decide_eq_false e, decide_eq_true (by omega)]; rfl
  · rw [o1.2 10 (by omega) (by omega)]; exact h10 z
  · rw [o1.1 51 (by omega)]; exact h6
theorem fS_ok {st i : Nat} (h : okS s nl st = true) (hi : i ≤ shLen (s st) + 1) : fS s nl st i = i := (okS_at h).2.2 i hi
/-- behind the reading: 'must', then what is done, then the statement's end -/
theorem t_tail {M0 : xM} {st L : Nat} {p1 is : Int32} {Q : xM → Prop} {F : xM → xM} {c : Prop} (hT : TR M s nl) (hs : st < nl) (hi : isSt (s st) = true) (hL : shLen (s st) = L) (hR : RS M s nl st L) (h10 : M 50 10 = M0 50 10) (hS : SV M A) (h6 : M 51 146 = bs rf 17) (hd : dOff M0 M) (hp : p1 = 0 ∨ (p1 = 1 ∧ okS s nl st = true ∧ stdS s st = true))
    (hw : okS s nl st = true → (is = 0 ↔ stdS s st = false))
    (hF : okS s nl st = true → stdS s st = true → ∀ M1, SV M1 A → c ∧ SV (F M1) (pSt rf s st A) ∧ (∀ p, p ≠ 51 → F M1 p = M1 p) ∧ F M1 51 146 = M1 51 146)
    (hq : ∀ M1, tFin M0 s nl st (if p1 = 0 then A else pSt rf s st A) rf M1 → Q M1) : wX4_must M is (nI st) (fun M1 => (p1 = 0 → wX4_states_540 p1 Q M1) ∧ (¬ p1 = 0 → c ∧ wX4_states_540 p1 Q (F M1))) := by
  refine t_must hR.2 (fun M1 m1 m2 m3 => ?_)
  have r1 : RS M1 s nl st L := RS_same hR (m2 8 (by omega)) (m2 9 (by omega))
  have T1 : TR M1 s nl := TR_same hT (m2 7 (by omega)) (m1 55 (by omega))
  have d1 : dOff M0 M1 := dOff_tr hd ⟨fun p a _ _ _ _ _ => m1 p a, fun k _ _ e _ _ => m2 k e⟩
  have S1 : SV M1 A := SV_same hS (m1 51 (by omega))
  have g6 : M1 51 146 = bs rf 17 := by rw [m1 51 (by omega)]; exact h6
  have s10 : okS s nl st = true → M1 50 10 = if stdS s st = false ∧ M0 50 10 = -1 then nI st else M0 50 10 := fun z => by
    have hl : L ≤ shLen (s st) + 1 := by omega
    have e := m3 (decide_eq_false (by rw [fS_ok z hl]; omega))
    rw [e, h10]
    by_cases q : is = 0 ∧ M0 50 10 = -1
    · rw [if_pos q, if_pos ⟨(hw z).mp q.1, q.2⟩]
    · rw [if_neg q, if_neg (fun w => q ⟨(hw z).mpr w.1, w.2⟩)]
  refine ⟨fun z => t_540 T1 hs hi hL r1 s10 (B := if p1 = 0 then A else pSt rf s st A) (by rw [if_pos z]; exact S1) g6 d1 hq, fun z => ?_⟩
  obtain ⟨_, ok, sd⟩ := hp.resolve_left z
  obtain ⟨f0, f1, f2, f3⟩ := hF ok sd M1 S1
  have e50 := f2 50 (by omega)
  refine ⟨f0, t_540 (TR_same T1 (by rw [e50]) (f2 55 (by omega))) hs hi hL (RS_same r1 (by rw [e50]) (by rw [e50])) (fun w => by rw [e50]; exact s10 w) (B := if p1 = 0 then A else pSt rf s st A) (by rw [if_neg z]; exact f1) (f3.trans g6) (dOff_tr d1 (dOff_51 f2)) hq⟩
theorem t_states {st : Nat} {p1 : Int32} {Q : xM → Prop} (hT : TR M s nl) (hS : SV M A) (hO : aOK A) (h6 : M 51 146 = bs rf 17) (hs : st < nl) (h8 : M 50 8 = nI st) (h9 : M 50 9 = 0) (hp : p1 = 0 ∨ (p1 = 1 ∧ okS s nl st = true ∧ stdS s st = true)) (hq : ∀ M1, tFin M s nl st (if p1 = 0 then A else pSt rf s st A) rf M1 → Q M1) : wX4_states M p1 Q := by
  have h1 := hT.1
  have h3 := (hT.2.2 st hs).1
  have st5 : st < 500 := by omega
  obtain ⟨N, hN⟩ : ∃ N, N = xup M 50 8 (nI (st + 1)) := ⟨_, rfl⟩
  have oN : oOff M N := by rw [hN]; exact oOff_up (by omega)
  have rN : RS N s nl st 0 := by
    rw [hN]
    refine ⟨by rw [xup_at, upd, if_pos rfl]; rfl, ?_⟩
    rw [xup_at, upd, if_neg (by omega), h9]; rfl
  have tN : TR N s nl := TR_d hT (dOff_n (nOff_o oN))
  -- what holds behind signs
  have pre : ∀ N1, oOff N N1 → TR N1 s nl ∧ N1 50 10 = M 50 10 ∧ SV N1 A ∧ N1 51 146 = bs rf 17 ∧ dOff M N1 := fun N1 o1 => by
    have o := oOff_tr oN o1
    exact ⟨TR_d hT (dOff_n (nOff_o o)), o.2 10 (by omega) (by omega), SV_same hS (o.1 51 (by omega)), by rw [o.1 51 (by omega)]; exact h6, dOff_n (nOff_o o)⟩
  have up51 : ∀ (q : Nat) (x : Int32) (M1 : xM), q ≠ 146 → (∀ p, p ≠ 51 → xup M1 51 q x p = M1 p) ∧ xup M1 51 q x 51 146 = M1 51 146 := fun q x M1 h => ⟨fun p hp => xup_n hp, by rw [xup_at, upd, if_neg (Ne.symm h)]⟩
  unfold wX4_states
  refine t_here hT h8 (by omega) ?_
  rw [if_pos hs, h8, nI_1, ← hN, show (nI (s st) = (98 : Int32)) ↔ s st = 98 from z_eq (b := 98) (by omega) (by omega), show (nI (s st) = (99 : Int32)) ↔ s st = 99 from z_eq (b := 99) (by omega) (by omega), show (nI (s st) = (101 : Int32)) ↔ s st = 101 from z_eq (b := 101) (by omega) (by omega), show (nI (s st) = (105 : Int32)) ↔ s st = 105 from z_eq (b := 105) (by omega) (by omega), show (nI (s st) = (109 : Int32)) ↔ s st = 109 from z_eq (b := 109) (by omega) (by omega), show (nI (s st) = (112 : Int32)) ↔ s st = 112 from z_eq (b := 112) (by omega) (by omega), show (nI (s st) = (117 : Int32)) ↔ s st = 117 from z_eq (b := 117) (by omega) (by omega), show (nI (s st) = (120 : Int32)) ↔ s st = 120 from z_eq (b := 120) (by omega) (by omega)]
  refine ⟨fun c1 => ?_, fun c1 => ⟨fun c0 => ?_, fun c0 => ⟨fun c2 => ?_, fun c2 => ⟨fun c3 => ?_, fun c3 => ⟨fun c4 => ?_, fun c4 => ⟨fun c5 => ?_, fun c5 => ⟨fun c6 => ?_, fun c6 => ⟨fun c7 => ?_, fun c7 => ?_⟩⟩⟩⟩⟩⟩⟩⟩
  · -- b
    have hi : isSt (s st) = true := by rw [c1]; rfl
    have hL : shLen (s st) = 4 := by rw [c1]; decide +kernel
    have a0 : shAt (s st) 0 = 57 := by rw [c1]; decide +kernel
    have a1 : shAt (s st) 1 = 57 := by rw [c1]; decide +kernel
    have a2 : shAt (s st) 2 = 57 := by rw [c1]; decide +kernel
    have a3 : shAt (s st) 3 = 57 := by rw [c1]; decide +kernel
    refine t_twoDigits (i := 0) tN st5 (by omega) a0 a1 rN (fun N1 v1 r1 o1 e1 => ?_)
    refine t_twoDigits (i := 2) (pre N1 o1).1 st5 (by omega) a2 a3 r1 (fun N2 v2 r2 o2 e2 => ?_)
    obtain ⟨T2, g10, S2, g6, d2⟩ := pre N2 (oOff_tr o1 o2)
    have w1 : okS s nl st = true → v1 = nI (10 * dg s (st + 1) + dg s (st + 2)) := fun ok => e1 (fS_ok ok (by omega))
    have w2 : okS s nl st = true → v2 = nI (10 * dg s (st + 3) + dg s (st + 4)) := fun ok => e2 (fS_ok ok (by omega))
    have tail : ∀ is : Int32, (okS s nl st = true → (is = 0 ↔ stdS s st = false)) → wX4_states_417 p1 Q N2 (nI st) v1 v2 is := fun is hw => by
      unfold wX4_states_417
      refine t_tail (F := fun M418 => xup M418 51 ((120 : Int32) + v1).toNatClampNeg v2) T2 hs hi hL r2 g10 S2 g6 d2 hp hw (fun ok sd M1 S1 => ?_) hq
      have g := std_pair sd (Or.inl c1)
      rw [w1 ok, w2 ok, show (120 : Int32) = nI 120 from rfl, z_add, z_cl (by omega), z_in (by omega) (by omega)]
      refine ⟨by omega, ?_, up51 _ _ M1 (by omega)⟩
      unfold pSt
      rw [if_pos c1]
      exact SV_n S1 (by omega)
    have key : okS s nl st = true → (stdS s st = false ↔ ¬ 10 * dg s (st + 1) + dg s (st + 2) < 24) := fun _ => by
      unfold stdS
      rw [if_pos (Or.inl c1), decide_eq_false_iff_not]; rfl
    refine ⟨fun z => tail 0 (fun ok => ⟨fun _ => ?_, fun _ => rfl⟩), fun z => tail 1 (fun ok => ⟨fun q => absurd q (by decide), fun q => ?_⟩)⟩
    · obtain ⟨d1, d2, _, _⟩ := okS_98 ok c1
      have := digS_9 d1
      have := digS_9 d2
      rw [w1 ok, show (24 : Int32) = nI 24 from rfl, z_le (by omega) (by omega)] at z
      rw [key ok]; omega
    · obtain ⟨d1, d2, _, _⟩ := okS_98 ok c1
      have := digS_9 d1
      have := digS_9 d2
      rw [w1 ok, show (24 : Int32) = nI 24 from rfl, z_le (by omega) (by omega)] at z
      rw [key ok] at q; omega
  · -- c
    have hi : isSt (s st) = true := by rw [c0]; rfl
    have hL : shLen (s st) = 0 := by rw [c0]; decide +kernel
    have sd : stdS s st = true := stdS_any (by omega) (by omega) (by omega)
    obtain ⟨T1, g10, S1, g6, d1⟩ := pre N ⟨fun _ _ => rfl, fun _ _ _ => rfl⟩
    have s10 : ∀ M5 : xM, M5 50 10 = M 50 10 → okS s nl st = true → M5 50 10 = if stdS s st = false ∧ M 50 10 = -1 then nI st else M 50 10 := fun M5 e _ => by
      rw [sd, if_neg (fun q => absurd q.1 (by decide))]; exact e
    refine ⟨fun z => t_540 T1 hs hi hL rN (s10 N g10) (B := if p1 = 0 then A else pSt rf s st A) (by rw [if_pos z]; exact S1) g6 d1 hq, fun z => ?_⟩
    refine t_checks S1 hO g6 (fun M5 k5 o5 => ?_)
    have e50 : ∀ k, k ≠ 14 → M5 50 k = N 50 k := o5.2.1
    refine t_540 (TR_same T1 (e50 7 (by omega)) (o5.1 55 (by omega) (by omega) (by omega) (by omega) (by omega))) hs hi hL (RS_same rN (e50 8 (by omega)) (e50 9 (by omega))) (s10 M5 ((e50 10 (by omega)).trans g10)) (B := if p1 = 0 then A else pSt rf s st A) ?_ k5.2.2.1 (dOff_tr d1 (dOff_r o5)) hq
    rw [if_neg z]
    unfold pSt
    rw [if_neg c1, if_neg (by omega), if_neg (by omega), if_neg (by omega), if_neg (by omega), if_neg (by omega), if_neg (by omega)]
    exact k5.1
  · -- e
    have hi : isSt (s st) = true := by rw [c2]; rfl
    have hL : shLen (s st) = 4 := by rw [c2]; decide +kernel
    have a0 : shAt (s st) 0 = 57 := by rw [c2]; decide +kernel
    have a1 : shAt (s st) 1 = 57 := by rw [c2]; decide +kernel
    have a2 : shAt (s st) 2 = 97 := by rw [c2]; decide +kernel
    have a3 : shAt (s st) 3 = 57 := by rw [c2]; decide +kernel
    refine t_digit (i := 0) tN st5 (by omega) a0 rN (fun N1 v1 r1 o1 e1 => ?_)
    refine t_digit (i := 1) (pre N1 o1).1 st5 (by omega) a1 r1 (fun N2 v2 r2 o2 e2 => ?_)
    refine t_name (i := 2) (pre N2 (oOff_tr o1 o2)).1 st5 (by omega) a2 r2 (fun N3 v3 r3 o3 e3 => ?_)
    refine t_digit (i := 3) (pre N3 (oOff_tr (oOff_tr o1 o2) o3)).1 st5 (by omega) a3 r3 (fun N4 v4 r4 o4 e4 => ?_)
    obtain ⟨T4, g10, S4, g6, d4⟩ := pre N4 (oOff_tr (oOff_tr (oOff_tr o1 o2) o3) o4)
    have w1 : okS s nl st = true → v1 = nI (dg s (st + 1)) := fun ok => e1 (fS_ok ok (by omega))
    have w2 : okS s nl st = true → v2 = nI (dg s (st + 2)) := fun ok => e2 (fS_ok ok (by omega))
    have w3 : okS s nl st = true → v3 = nI (s (st + 3) - 97) := fun ok => e3 (fS_ok ok (by omega))
    have w4 : okS s nl st = true → v4 = nI (dg s (st + 4)) := fun ok => e4 (fS_ok ok (by omega))
    have tail : ∀ is : Int32, (okS s nl st = true → (is = 0 ↔ stdS s st = false)) → wX4_states_304 p1 Q N4 (nI st) v1 v2 v3 v4 is := fun is hw => by
      unfold wX4_states_304
      refine t_tail (F := fun M305 => xup M305 51 (((60 : Int32) + ((6 : Int32) * v1)) + v2).toNatClampNeg (((26 : Int32) * v4) + v3)) T4 hs hi hL r4 g10 S4 g6 d4 hp hw (fun ok sd M1 S1 => ?_) hq
      obtain ⟨x1, x2, x3, x4⟩ := okS_101 ok c2
      have g := std_slot sd (Or.inl c2)
      have b1 := digS_9 x1
      have b4 := digS_9 x4
      rw [w1 ok, w2 ok, w3 ok, w4 ok, show (60 : Int32) = nI 60 from rfl, show (6 : Int32) = nI 6 from rfl, show (26 : Int32) = nI 26 from rfl, z_mul, z_mul, z_add, z_add, z_add, Nat.add_assoc, z_cl (by omega), z_in (by omega) (by omega)]
      refine ⟨by omega, ?_, up51 _ _ M1 (by omega)⟩
      unfold pSt
      rw [if_neg c1, if_pos c2]
      have sv := SV_e (x := 26 * dg s (st + 4) + (s (st + 3) - 97)) S1 (show 6 * dg s (st + 1) + dg s (st + 2) < 60 by omega)
      rw [eM_some (by omega)] at sv
      exact sv
    have key : stdS s st = false ↔ ¬ dg s (st + 2) < 6 := by
      unfold stdS
      rw [if_neg (by omega), if_pos (Or.inl c2), decide_eq_false_iff_not]; rfl
    refine ⟨fun z => tail 0 (fun ok => ⟨fun _ => ?_, fun _ => rfl⟩), fun z => tail 1 (fun ok => ⟨fun q => absurd q (by decide), fun q => ?_⟩)⟩
    · obtain ⟨_, x2, _, _⟩ := okS_101 ok c2
      have := digS_9 x2
      rw [w2 ok, show (6 : Int32) = nI 6 from rfl, z_le (by omega) (by omega)] at z
      rw [key]; omega
    · obtain ⟨_, x2, _, _⟩ := okS_101 ok c2
      have := digS_9 x2
      rw [w2 ok, show (6 : Int32) = nI 6 from rfl, z_le (by omega) (by omega)] at z
      rw [key] at q; omega
  · -- i
    have hi : isSt (s st) = true := by rw [c3]; rfl
    have hL : shLen (s st) = 4 := by rw [c3]; decide +kernel
    have a0 : shAt (s st) 0 = 57 := by rw [c3]; decide +kernel
    have a1 : shAt (s st) 1 = 107 := by rw [c3]; decide +kernel
    have a2 : shAt (s st) 2 = 57 := by rw [c3]; decide +kernel
    have a3 : shAt (s st) 3 = 57 := by rw [c3]; decide +kernel
    have sd : stdS s st = true := stdS_any (by omega) (by omega) (by omega)
    refine t_digit (i := 0) tN st5 (by omega) a0 rN (fun N1 v1 r1 o1 e1 => ?_)
    have w1 : okS s nl st = true → v1 = nI (dg s (st + 1)) := fun ok => e1 (fS_ok ok (by omega))
    have rest : ∀ N2 v2, RS N2 s nl st 2 → oOff N N2 → (fS s nl st 2 = 2 → v2 = nI (kdOf (s (st + 2)))) → wX4_states_149 p1 Q N2 v1 v2 := fun N2 v2 r2 o2 e2 => by
      have w2 : okS s nl st = true → v2 = nI (kdOf (s (st + 2))) := fun ok => e2 (fS_ok ok (by omega))
      unfold wX4_states_149
      refine t_digit (i := 2) (pre N2 o2).1 st5 (by omega) a2 r2 (fun N3 v3 r3 o3 e3 => ?_)
      refine t_digit (i := 3) (pre N3 (oOff_tr o2 o3)).1 st5 (by omega) a3 r3 (fun N4 v4 r4 o4 e4 => ?_)
      obtain ⟨T4, g10, S4, g6, d4⟩ := pre N4 (oOff_tr (oOff_tr o2 o3) o4)
      have w3 : okS s nl st = true → v3 = nI (dg s (st + 3)) := fun ok => e3 (fS_ok ok (by omega))
      have w4 : okS s nl st = true → v4 = nI (dg s (st + 4)) := fun ok => e4 (fS_ok ok (by omega))
      have s10 : okS s nl st = true → N4 50 10 = if stdS s st = false ∧ M 50 10 = -1 then nI st else M 50 10 := fun _ => by
        rw [sd, if_neg (fun q => absurd q.1 (by decide))]; exact g10
      refine ⟨fun z => t_540 T4 hs hi hL r4 s10 (B := if p1 = 0 then A else pSt rf s st A) (by rw [if_pos z]; exact S4) g6 d4 hq, fun z => ?_⟩
      obtain ⟨_, ok, _⟩ := hp.resolve_left z
      obtain ⟨x1, x2, x3, x4⟩ := okS_105 ok c3
      have b1 := digS_9 x1
      have b3 := digS_9 x3
      have b4 := digS_9 x4
      rw [w1 ok, w2 ok, w3 ok, w4 ok, show (0 : Int32) = nI 0 from rfl, show (10 : Int32) = nI 10 from rfl, show (20 : Int32) = nI 20 from rfl, z_add, z_add, z_add, Nat.zero_add, z_cl (by omega), z_cl (by omega), z_cl (by omega), z_in (by omega) (by omega), z_in (by omega) (by omega), z_in (by omega) (by omega)]
      have p51 : ∀ p, p ≠ 51 → xup (xup (xup N4 51 (dg s (st + 1)) (nI (kdOf (s (st + 2))))) 51 (10 + dg s (st + 1)) (nI (dg s (st + 3)))) 51 (20 + dg s (st + 1)) (nI (dg s (st + 4))) p = N4 p := fun p hp => by
        rw [xup_n hp, xup_n hp, xup_n hp]
      have e50 := p51 50 (by omega)
      refine ⟨by omega, by omega, by omega, t_540 (TR_same T4 (by rw [e50]) (p51 55 (by omega))) hs hi hL (RS_same r4 (by rw [e50]) (by rw [e50])) (fun w => by rw [e50]; exact s10 w) (B := if p1 = 0 then A else pSt rf s st A) ?_ ?_ (dOff_tr d4 (dOff_51 p51)) hq⟩
      · rw [if_neg z]
        unfold pSt
        rw [if_neg c1, if_neg c2, if_pos c3]
        exact SV_n (SV_n (SV_n S4 (by omega)) (by omega)) (by omega)
      · rw [xup_at, upd, if_neg (by omega), xup_at, upd, if_neg (by omega), xup_at, upd, if_neg (by omega)]; exact g6
    refine ⟨fun z => ?_, fun z => ?_⟩
    · have n1 : fS s nl st 1 = 1 := by
        have h2 := fS_le s nl st 1
        have h3 := r1.2
        rw [show (0 : Nat) + 1 = 1 from rfl] at h3
        rw [h3] at z
        have := of_decide_eq_false ((bI_0 _).mp z)
        omega
      exact t_kind (i := 1) (pre N1 o1).1 st5 (by omega) a1 r1 n1 (fun N2 v2 r2 o2 e2 => rest N2 v2 r2 (oOff_tr o1 o2) e2)
    · have n1 : fS s nl st 1 < 1 := by
        have h3 := r1.2
        rw [show (0 : Nat) + 1 = 1 from rfl] at h3
        rw [h3] at z
        exact of_decide_eq_true (bI_ne z)
      have fs := fS_s s nl st 1
      rw [if_pos n1] at fs
      have fs : fS s nl st 2 = fS s nl st 1 := fs
      refine rest N1 0 ⟨?_, ?_⟩ o1 (fun q => absurd q (by omega))
      · rw [fs]; exact r1.1
      · rw [decide_eq_true (show fS s nl st 2 < 2 by omega), r1.2, decide_eq_true (show fS s nl st (0 + 1) < 0 + 1 from n1)]
  · -- m
    have hi : isSt (s st) = true := by rw [c4]; rfl
    have hL : shLen (s st) = 2 := by rw [c4]; decide +kernel
    have a0 : shAt (s st) 0 = 57 := by rw [c4]; decide +kernel
    have a1 : shAt (s st) 1 = 57 := by rw [c4]; decide +kernel
    refine t_twoDigits (i := 0) tN st5 (by omega) a0 a1 rN (fun N1 v1 r1 o1 e1 => ?_)
    obtain ⟨T1, g10, S1, g6, d1⟩ := pre N1 o1
    have w1 : okS s nl st = true → v1 = nI (10 * dg s (st + 1) + dg s (st + 2)) := fun ok => e1 (fS_ok ok (by omega))
    have tail : ∀ is : Int32, (okS s nl st = true → (is = 0 ↔ stdS s st = false)) → wX4_states_459 p1 Q N1 (nI st) v1 is := fun is hw => by
      unfold wX4_states_459
      refine t_tail (F := fun M460 => xup M460 51 (144 : Int32).toNatClampNeg ((M460 51 (144 : Int32).toNatClampNeg) ^^^ ((1 : Int32) <<< (v1 &&& 31)))) T1 hs hi hL r1 g10 S1 g6 d1 hp hw (fun ok sd M1 S2 => ?_) hq
      have g := std_pair sd (Or.inr c4)
      have t4 : (144 : Int32).toNatClampNeg = 144 := rfl
      have w := S2.2.2.2.2.2.2.1
      rw [w1 ok, t4, w, one_shl (by omega), fb_xorI]
      refine ⟨(z_in (a := 144) (by omega) (by omega)).mpr (by omega), ?_, up51 _ _ M1 (by omega)⟩
      unfold pSt
      rw [if_neg c1, if_neg c2, if_neg c3, if_pos c4]
      exact SV_n S2 (by omega)
    have key : stdS s st = false ↔ ¬ 10 * dg s (st + 1) + dg s (st + 2) < 24 := by
      unfold stdS
      rw [if_pos (Or.inr c4), decide_eq_false_iff_not]; rfl
    refine ⟨fun z => tail 0 (fun ok => ⟨fun _ => ?_, fun _ => rfl⟩), fun z => tail 1 (fun ok => ⟨fun q => absurd q (by decide), fun q => ?_⟩)⟩
    · obtain ⟨x1, x2⟩ := okS_109 ok c4
      have := digS_9 x1
      have := digS_9 x2
      rw [w1 ok, show (24 : Int32) = nI 24 from rfl, z_le (by omega) (by omega)] at z
      rw [key]; omega
    · obtain ⟨x1, x2⟩ := okS_109 ok c4
      have := digS_9 x1
      have := digS_9 x2
      rw [w1 ok, show (24 : Int32) = nI 24 from rfl, z_le (by omega) (by omega)] at z
      rw [key] at q; omega
  · -- p
    have hi : isSt (s st) = true := by rw [c5]; rfl
    have hL : shLen (s st) = 4 := by rw [c5]; decide +kernel
    have a0 : shAt (s st) 0 = 57 := by rw [c5]; decide +kernel
    have a1 : shAt (s st) 1 = 57 := by rw [c5]; decide +kernel
    have a2 : shAt (s st) 2 = 57 := by rw [c5]; decide +kernel
    have a3 : shAt (s st) 3 = 57 := by rw [c5]; decide +kernel
    refine t_digit (i := 0) tN st5 (by omega) a0 rN (fun N1 v1 r1 o1 e1 => ?_)
    refine t_digit (i := 1) (pre N1 o1).1 st5 (by omega) a1 r1 (fun N2 v2 r2 o2 e2 => ?_)
    refine t_twoDigits (i := 2) (pre N2 (oOff_tr o1 o2)).1 st5 (by omega) a2 a3 r2 (fun N3 v3 r3 o3 e3 => ?_)
    obtain ⟨T3, g10, S3, g6, d3⟩ := pre N3 (oOff_tr (oOff_tr o1 o2) o3)
    have w1 : okS s nl st = true → v1 = nI (dg s (st + 1)) := fun ok => e1 (fS_ok ok (by omega))
    have w2 : okS s nl st = true → v2 = nI (dg s (st + 2)) := fun ok => e2 (fS_ok ok (by omega))
    have w3 : okS s nl st = true → v3 = nI (10 * dg s (st + 3) + dg s (st + 4)) := fun ok => e3 (fS_ok ok (by omega))
    have tail : ∀ is : Int32, (okS s nl st = true → (is = 0 ↔ stdS s st = false)) → wX4_states_235 p1 Q N3 (nI st) v1 v2 v3 is := fun is hw => by
      unfold wX4_states_235
      refine t_tail (F := fun M236 => xup M236 51 (((30 : Int32) + ((3 : Int32) * v1)) + v2).toNatClampNeg v3) T3 hs hi hL r3 g10 S3 g6 d3 hp hw (fun ok sd M1 S1 => ?_) hq
      obtain ⟨x1, x2, x3, x4⟩ := okS_112 ok c5
      have g := std_ptr sd c5
      have b1 := digS_9 x1
      rw [w1 ok, w2 ok, w3 ok, show (30 : Int32) = nI 30 from rfl, show (3 : Int32) = nI 3 from rfl, z_mul, z_add, z_add, Nat.add_assoc, z_cl (by omega), z_in (by omega) (by omega)]
      refine ⟨by omega, ?_, up51 _ _ M1 (by omega)⟩
      unfold pSt
      rw [if_neg c1, if_neg c2, if_neg c3, if_neg c4, if_pos c5]
      exact SV_n S1 (by omega)
    have key : stdS s st = false ↔ ¬ dg s (st + 2) < 3 := by
      unfold stdS
      rw [if_neg (by omega), if_neg (by omega), if_pos c5, decide_eq_false_iff_not]; rfl
    refine ⟨fun z => tail 0 (fun ok => ⟨fun _ => ?_, fun _ => rfl⟩), fun z => tail 1 (fun ok => ⟨fun q => absurd q (by decide), fun q => ?_⟩)⟩
    · obtain ⟨_, x2, _, _⟩ := okS_112 ok c5
      have := digS_9 x2
      rw [w2 ok, show (3 : Int32) = nI 3 from rfl, z_le (by omega) (by omega)] at z
      rw [key]; omega
    · obtain ⟨_, x2, _, _⟩ := okS_112 ok c5
      have := digS_9 x2
      rw [w2 ok, show (3 : Int32) = nI 3 from rfl, z_le (by omega) (by omega)] at z
      rw [key] at q; omega
  · -- u
    have hi : isSt (s st) = true := by rw [c6]; rfl
    have hL : shLen (s st) = 1 := by rw [c6]; decide +kernel
    have a0 : shAt (s st) 0 = 57 := by rw [c6]; decide +kernel
    have sd : stdS s st = true := stdS_any (by omega) (by omega) (by omega)
    refine t_digit (i := 0) tN st5 (by omega) a0 rN (fun N1 v1 r1 o1 e1 => ?_)
    obtain ⟨T1, g10, S1, g6, d1⟩ := pre N1 o1
    have w1 : okS s nl st = true → v1 = nI (dg s (st + 1)) := fun ok => e1 (fS_ok ok (by omega))
    have s10 : okS s nl st = true → N1 50 10 = if stdS s st = false ∧ M 50 10 = -1 then nI st else M 50 10 := fun _ => by
      rw [sd, if_neg (fun q => absurd q.1 (by decide))]; exact g10
    refine ⟨fun z => t_540 T1 hs hi hL r1 s10 (B := if p1 = 0 then A else pSt rf s st A) (by rw [if_pos z]; exact S1) g6 d1 hq, fun z => ?_⟩
    obtain ⟨_, ok, _⟩ := hp.resolve_left z
    have b1 := digS_9 (okS_117 ok c6)
    have t5 : (145 : Int32).toNatClampNeg = 145 := rfl
    have w := S1.2.2.2.2.2.2.2
    rw [w1 ok, t5, w, one_shl (by omega), fb_xorI]
    have u := up51 145 (nI (A 145 ^^^ 2 ^ dg s (st + 1))) N1 (by omega)
    have e50 := u.1 50 (by omega)
    refine ⟨(z_in (a := 145) (by omega) (by omega)).mpr (by omega), t_540 (TR_same T1 (by rw [e50]) (u.1 55 (by omega))) hs hi hL (RS_same r1 (by rw [e50]) (by rw [e50])) (fun w => by rw [e50]; exact s10 w) (B := if p1 = 0 then A else pSt rf s st A) ?_ (u.2.trans g6) (dOff_tr d1 (dOff_51 u.1)) hq⟩
    rw [if_neg z]
    unfold pSt
    rw [if_neg c1, if_neg c2, if_neg c3, if_neg c4, if_neg c5, if_pos c6]
    exact SV_n S1 (by omega)
  · -- x
    have hi : isSt (s st) = true := by rw [c7]; rfl
    have hL : shLen (s st) = 2 := by rw [c7]; decide +kernel
    have a0 : shAt (s st) 0 = 57 := by rw [c7]; decide +kernel
    have a1 : shAt (s st) 1 = 57 := by rw [c7]; decide +kernel
    refine t_digit (i := 0) tN st5 (by omega) a0 rN (fun N1 v1 r1 o1 e1 => ?_)
    refine t_digit (i := 1) (pre N1 o1).1 st5 (by omega) a1 r1 (fun N2 v2 r2 o2 e2 => ?_)
    obtain ⟨T2, g10, S2, g6, d2⟩ := pre N2 (oOff_tr o1 o2)
    have w1 : okS s nl st = true → v1 = nI (dg s (st + 1)) := fun ok => e1 (fS_ok ok (by omega))
    have w2 : okS s nl st = true → v2 = nI (dg s (st + 2)) := fun ok => e2 (fS_ok ok (by omega))
    have tail : ∀ is : Int32, (okS s nl st = true → (is = 0 ↔ stdS s st = false)) → wX4_states_364 p1 Q N2 (nI st) v1 v2 is := fun is hw => by
      unfold wX4_states_364
      refine t_tail (F := fun M365 => xup M365 51 (((60 : Int32) + ((6 : Int32) * v1)) + v2).toNatClampNeg (-1 : Int32)) T2 hs hi hL r2 g10 S2 g6 d2 hp hw (fun ok sd M1 S1 => ?_) hq
      obtain ⟨x1, x2⟩ := okS_120 ok c7
      have g := std_slot sd (Or.inr c7)
      have b1 := digS_9 x1
      rw [w1 ok, w2 ok, show (60 : Int32) = nI 60 from rfl, show (6 : Int32) = nI 6 from rfl, z_mul, z_add, z_add, Nat.add_assoc, z_cl (by omega), z_in (by omega) (by omega)]
      refine ⟨by omega, ?_, up51 _ _ M1 (by omega)⟩
      unfold pSt
      rw [if_neg c1, if_neg c2, if_neg c3, if_neg c4, if_neg c5, if_neg c6, if_pos c7]
      exact SV_e (x := 260) S1 (by omega)
    have key : stdS s st = false ↔ ¬ dg s (st + 2) < 6 := by
      unfold stdS
      rw [if_neg (by omega), if_pos (Or.inr c7), decide_eq_false_iff_not]; rfl
    refine ⟨fun z => tail 0 (fun ok => ⟨fun _ => ?_, fun _ => rfl⟩), fun z => tail 1 (fun ok => ⟨fun q => absurd q (by decide), fun q => ?_⟩)⟩
    · obtain ⟨_, x2⟩ := okS_120 ok c7
      have := digS_9 x2
      rw [w2 ok, show (6 : Int32) = nI 6 from rfl, z_le (by omega) (by omega)] at z
      rw [key]; omega
    · obtain ⟨_, x2⟩ := okS_120 ok c7
      have := digS_9 x2
      rw [w2 ok, show (6 : Int32) = nI 6 from rfl, z_le (by omega) (by omega)] at z
      rw [key] at q; omega
  · -- none of these
    have hi : isSt (s st) = false := by unfold isSt; simp [c0, c1, c2, c3, c4, c5, c6, c7]
    have ok : okS s nl st = false := by unfold okS; rw [hi]; rfl
    have hp0 : p1 = 0 := hp.elim id (fun z => by rw [ok] at z; exact absurd z.2.1 (by decide))
    have a8 : N 50 8 = nI (st + 1) := by rw [hN, xup_at, upd, if_pos rfl]
    rw [a8, show nI (st + 1) - (1 : Int32) = nI st from z_sub (a := st + 1) (b := 1) (by omega)]
    have o5 : oOff M (xup (xup N 50 8 (nI st)) 50 9 1) := oOff_tr oN (oOff_tr (oOff_up (by omega)) (oOff_up (by omega)))
    have b8 : xup (xup N 50 8 (nI st)) 50 9 1 50 8 = nI st := by rw [xup_at, upd, if_neg (by omega), xup_at, upd, if_pos rfl]
    have b9 : xup (xup N 50 8 (nI st)) 50 9 1 50 9 = 1 := by rw [xup_at, upd, if_pos rfl]
    unfold wX4_states_540 wX4_one
    refine t_here (TR_d hT (dOff_n (nOff_o o5))) b8 (by omega) ?_
    rw [b9]
    refine ⟨fun _ => t_one22 b8 (fun M1 e8 e9 o1 => ?_), fun z => absurd z (by decide)⟩
    have o := oOff_tr o5 o1
    refine hq M1 ⟨?_, ?_, fun z => (by rw [ok] at z; cases z), ?_, ?_, dOff_n (nOff_o o)⟩
    · unfold stpS
      rw [if_neg (by rw [hi]; decide)]; exact e8
    · rw [ok, e9]; rfl
    · rw [if_pos hp0]; exact SV_same hS (o.1 51 (by omega))
    · rw [o.1 51 (by omega)]; exact h6
end T4
