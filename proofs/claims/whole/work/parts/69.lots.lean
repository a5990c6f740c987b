/-! volumes by lot -/
section K9
variable {M : xM} {A : Nat → Nat} {rf : Nat → Bool}
def dS (z : Int32) : Int32 := z * 1664525 + 1013904223
def dV (z : Int32) (m : Nat) : Nat := (dS z).toBitVec.toNat % 2 ^ 31 / 256 % m
theorem dV_lt (z : Int32) {m : Nat} (h : 0 < m) : dV z m < m := Nat.mod_lt _ h
theorem dV_is (z : Int32) {m : Nat} (h : 0 < m) (hm : m < 1000) : ((dS z &&& 2147483647) / 256) - ((dS z &&& 2147483647) / 256) / nI m * nI m = nI (dV z m) := by
  have b : (dS z).toBitVec.toNat % 2 ^ 31 < 2147483648 := Nat.mod_lt _ (by decide)
  have b2 : (dS z).toBitVec.toNat % 2 ^ 31 / 256 < 2147483648 := Nat.lt_of_le_of_lt (Nat.div_le_self _ _) b
  rw [pk_and (dS z) (m := 2147483647) 31 (by decide), show (256 : Int32) = nI 256 from rfl, z_div b (by omega) (by omega), z_rem b2 h (by omega)]
  rfl
/-- the class draws: only its seed changes; likewise the reference -/
def d0Off (M M' : xM) : Prop := (∀ p, p ≠ 0 → M' p = M p) ∧ ∀ k, k ≠ 12 → M' 0 k = M 0 k
def e0Off (M M' : xM) : Prop := (∀ p, p ≠ 50 → M' p = M p) ∧ ∀ k, k ≠ 17 → M' 50 k = M 50 k
theorem d0_tr {M1 M2 : xM} (h : d0Off M M1) (h2 : d0Off M1 M2) : d0Off M M2 := ⟨fun p a => (h2.1 p a).trans (h.1 p a), fun k a => (h2.2 k a).trans (h.2 k a)⟩
theorem e0_tr {M1 M2 : xM} (h : e0Off M M1) (h2 : e0Off M1 M2) : e0Off M M2 := ⟨fun p a => (h2.1 p a).trans (h.1 p a), fun k a => (h2.2 k a).trans (h.2 k a)⟩
theorem c_draw {z : Int32} {m : Nat} {Q : Int32 → xM → Prop} (hz : M 0 12 = z) (h : 0 < m) (hm : m < 1000) (hq : ∀ M1, M1 0 12 = dS z → d0Off M M1 → Q (nI (dV z m)) M1) : wX3_draw M (nI m) Q := by
  have hs : xup M 0 12 (M 0 12 * 1664525 + 1013904223) 0 12 = dS z := by rw [xup_at, upd, if_pos rfl, hz]; rfl
  unfold wX3_draw wX3_draw_36
  rw [hs, dV_is z h hm, show (1 : Int32) = nI 1 from rfl, z_le (by omega) (by omega)]
  refine ⟨fun _ => ⟨?_, hq _ hs ⟨fun p a => xup_n a, fun k a => by rw [xup_at, upd, if_neg a]⟩⟩, fun z2 => absurd (by omega) z2⟩
  rw [show (0 : Int32) = nI 0 from rfl, z_eq (by omega) (by omega)]; omega
theorem t_drawn {z : Int32} {m : Nat} {Q : Int32 → xM → Prop} (hz : M 50 17 = z) (h : 0 < m) (hm : m < 1000) (hq : ∀ M1, M1 50 17 = dS z → e0Off M M1 → Q (nI (dV z m)) M1) : wX4_drawn M (nI m) Q := by
  have hs : xup M 50 17 (M 50 17 * 1664525 + 1013904223) 50 17 = dS z := by rw [xup_at, upd, if_pos rfl, hz]; rfl
  unfold wX4_drawn
  rw [hs, dV_is z h hm]
  refine ⟨?_, hq _ hs ⟨fun p a => xup_n a, fun k a => by rw [xup_at, upd, if_neg a]⟩⟩
  rw [show (0 : Int32) = nI 0 from rfl, z_eq (by omega) (by omega)]; omega
def pLot (A : Nat → Nat) (z : Int32) : Nat → Nat :=
  if dV z 3 = 0 then aUp A (30 + (3 * dV (dS (dS z)) 10 + dV (dS z) 3)) (dV (dS (dS (dS z))) 26)
  else if dV z 3 = 1 then aUp A (60 + (6 * dV (dS (dS z)) 10 + dV (dS z) 6)) (26 * dV (dS (dS (dS (dS z)))) 10 + dV (dS (dS (dS z))) 26)
  else aUp A (dV (dS z) 10) (dV (dS (dS z)) 6)
def pSeed (z : Int32) : Int32 := if dV z 3 = 0 then dS (dS (dS (dS z))) else if dV z 3 = 1 then dS (dS (dS (dS (dS z)))) else dS (dS (dS z))
theorem pLot_ok {z : Int32} (hO : aOK A) : aOK (pLot A z) := by
  unfold pLot
  have h1 := dV_lt (dS z) (m := 3) (by omega)
  have h2 := dV_lt (dS (dS z)) (m := 10) (by omega)
  have h3 := dV_lt (dS (dS (dS z))) (m := 26) (by omega)
  have h4 := dV_lt (dS z) (m := 6) (by omega)
  have h5 := dV_lt (dS (dS (dS (dS z)))) (m := 10) (by omega)
  have h6 := dV_lt (dS z) (m := 10) (by omega)
  have h7 := dV_lt (dS (dS z)) (m := 6) (by omega)
  by_cases c0 : dV z 3 = 0
  · rw [if_pos c0]
    exact aOK_ptr hO (by omega) (by omega)
  · rw [if_neg c0]
    by_cases c1 : dV z 3 = 1
    · rw [if_pos c1]
      exact aOK_ent hO (by omega) (by omega)
    · rw [if_neg c1]
      exact aOK_kind hO (by omega) (by omega)
/-- the class changes its trial by lot -/
def tOff (M M' : xM) : Prop := (∀ p, p ≠ 0 → ¬ (8 ≤ p ∧ p ≤ 14) → M' p = M p) ∧ ∀ k, k ≠ 12 → M' 0 k = M 0 k
theorem tOff_rf : tOff M M := ⟨fun _ _ _ => rfl, fun _ _ => rfl⟩
theorem tOff_tr {M1 M2 : xM} (h : tOff M M1) (h2 : tOff M1 M2) : tOff M M2 := ⟨fun p a b => (h2.1 p a b).trans (h.1 p a b), fun k a => (h2.2 k a).trans (h.2 k a)⟩
theorem tOff_d {M1 : xM} (h : d0Off M M1) : tOff M M1 := ⟨fun p a _ => h.1 p a, h.2⟩
theorem tOff_s {M1 : xM} (h : sOff 8 14 M M1) : tOff M M1 := ⟨fun p _ b => h p b, fun k _ => by rw [h 0 (by omega)]⟩
theorem cOff_t {M1 : xM} (h : tOff M M1) : cOff M M1 := ⟨fun p a b _ => h.1 p a (by omega), fun k _ b => h.2 k b⟩
theorem IV_t {M1 : xM} (h : IV M A rf) (c : tOff M M1) : IV M1 A rf := by
  obtain ⟨v1, v2, v3, v4, v5, v6⟩ := h
  exact ⟨CV_same v1 fun d hd => c.1 _ (by omega) (by omega), v2, v3, by rw [c.2 11 (by omega)]; exact v4, SV_same v5 (c.1 51 (by omega) (by omega)), by rw [c.1 51 (by omega) (by omega)]; exact v6⟩
theorem c_change {z : Int32} {Q : xM → Prop} (hC : CV M 8 A) (hz : M 0 12 = z) (hq : ∀ M1, CV M1 8 (pLot A z) → M1 0 12 = pSeed z → tOff M M1 → Q M1) : wX3_changeByLot M Q := by
  have h1 := dV_lt (dS z) (m := 3) (by omega)
  have h2 := dV_lt (dS (dS z)) (m := 10) (by omega)
  have h3 := dV_lt (dS (dS (dS z))) (m := 26) (by omega)
  have h4 := dV_lt (dS z) (m := 6) (by omega)
  have h5 := dV_lt (dS (dS (dS (dS z)))) (m := 10) (by omega)
  have h6 := dV_lt (dS z) (m := 10) (by omega)
  have h7 := dV_lt (dS (dS z)) (m := 6) (by omega)
  have h8 := dV_lt z (m := 3) (by omega)
  unfold pLot pSeed at hq
  unfold wX3_changeByLot wX3_changeByLot_110
  refine c_draw (m := 3) hz (by omega) (by omega) (fun M1 z1 o1 => ?_)
  rw [show (0 : Int32) = nI 0 from rfl, show (1 : Int32) = nI 1 from rfl, z_eq (by omega) (by omega), z_eq (by omega) (by omega)]
  by_cases c0 : dV z 3 = 0
  · rw [if_pos c0, if_pos c0] at hq
    refine ⟨fun q => absurd c0 q, fun _ => ?_⟩
    refine c_draw (m := 3) z1 (by omega) (by omega) (fun M2 z2 o2 => c_draw (m := 10) z2 (by omega) (by omega) (fun M3 z3 o3 => c_draw (m := 26) z3 (by omega) (by omega) (fun M4 z4 o4 => ?_)))
    have o := d0_tr (d0_tr (d0_tr o1 o2) o3) o4
    refine r_pointAt (v := 8) (CV_same hC fun d hd => o.1 _ (by omega)) h2 h1 (by omega) (fun M5 c5 s5 => ?_)
    exact hq M5 c5 (by rw [s5 0 (by omega)]; exact z4) (tOff_tr (tOff_d o) (tOff_s s5))
  · rw [if_neg c0, if_neg c0] at hq
    refine ⟨fun _ => ⟨fun q => ?_, fun q => ?_⟩, fun q => absurd q c0⟩
    · rw [if_neg q, if_neg q] at hq
      refine c_draw (m := 10) z1 (by omega) (by omega) (fun M2 z2 o2 => c_draw (m := 6) z2 (by omega) (by omega) (fun M3 z3 o3 => ?_))
      have o := d0_tr (d0_tr o1 o2) o3
      rw [z_cl (by omega), z_in (by omega) (by omega)]
      refine ⟨h6, hq _ (CV_kind (v := 8) (CV_same hC fun d hd => o.1 _ (by omega)) h6) ?_ (tOff_tr (tOff_d o) (tOff_s (sOff_up (by omega))))⟩
      rw [xup_n (by omega)]; exact z3
    · rw [if_pos q, if_pos q] at hq
      refine c_draw (m := 6) z1 (by omega) (by omega) (fun M2 z2 o2 => c_draw (m := 10) z2 (by omega) (by omega) (fun M3 z3 o3 => c_draw (m := 26) z3 (by omega) (by omega) (fun M4 z4 o4 => c_draw (m := 10) z4 (by omega) (by omega) (fun M5 z5 o5 => ?_))))
      have o := d0_tr (d0_tr (d0_tr (d0_tr o1 o2) o3) o4) o5
      refine r_enter (v := 8) (CV_same hC fun d hd => o.1 _ (by omega)) h2 h4 h3 h5 (fun M6 c6 s6 => ?_)
      exact hq M6 c6 (by rw [s6 0 (by omega)]; exact z5) (tOff_tr (tOff_d o) (tOff_s s6))
/-- the reference changes its row by lot -/
def gOff (M M' : xM) : Prop := (∀ p, p ≠ 50 → p ≠ 51 → M' p = M p) ∧ (∀ k, k ≠ 17 → M' 50 k = M 50 k) ∧ M' 51 146 = M 51 146
theorem gOff_rf : gOff M M := ⟨fun _ _ _ => rfl, fun _ _ => rfl, rfl⟩
theorem gOff_tr {M1 M2 : xM} (h : gOff M M1) (h2 : gOff M1 M2) : gOff M M2 := ⟨fun p a b => (h2.1 p a b).trans (h.1 p a b), fun k a => (h2.2.1 k a).trans (h.2.1 k a), h2.2.2.trans h.2.2⟩
theorem gOff_e {M1 : xM} (h : e0Off M M1) : gOff M M1 := ⟨fun p a _ => h.1 p a, h.2, by rw [h.1 51 (by omega)]⟩
theorem gOff_s {q : Nat} {x : Int32} (hq : q ≠ 146) : gOff M (xup M 51 q x) := ⟨fun p _ b => xup_n b, fun k _ => by rw [xup_n (by omega)], by rw [xup_at, upd, if_neg (Ne.symm hq)]⟩
theorem dOff_g {M1 : xM} (h : gOff M M1) : dOff M M1 := ⟨fun p a b _ _ _ _ => h.1 p a b, fun j _ _ _ _ e => h.2.1 j e⟩
theorem t_damages {z : Int32} {Q : xM → Prop} (hS : SV M A) (hz : M 50 17 = z) (hq : ∀ M1, SV M1 (pLot A z) → M1 50 17 = pSeed z → gOff M M1 → Q M1) : wX4_damages M Q := by
  have h1 := dV_lt (dS z) (m := 3) (by omega)
  have h2 := dV_lt (dS (dS z)) (m := 10) (by omega)
  have h3 := dV_lt (dS (dS (dS z))) (m := 26) (by omega)
  have h4 := dV_lt (dS z) (m := 6) (by omega)
  have h5 := dV_lt (dS (dS (dS (dS z)))) (m := 10) (by omega)
  have h6 := dV_lt (dS z) (m := 10) (by omega)
  have h7 := dV_lt (dS (dS z)) (m := 6) (by omega)
  have h8 := dV_lt z (m := 3) (by omega)
  unfold pLot pSeed at hq
  unfold wX4_damages wX4_damages_137
  refine t_drawn (m := 3) hz (by omega) (by omega) (fun M1 z1 o1 => ?_)
  rw [show (nI (dV z 3) = (0 : Int32)) ↔ (dV z 3 = 0) from z_eq (b := 0) (by omega) (by omega), show (nI (dV z 3) = (1 : Int32)) ↔ (dV z 3 = 1) from z_eq (b := 1) (by omega) (by omega)]
  by_cases c0 : dV z 3 = 0
  · rw [if_pos c0, if_pos c0] at hq
    refine ⟨fun _ => ?_, fun q => absurd c0 q⟩
    refine t_drawn (m := 3) z1 (by omega) (by omega) (fun M2 z2 o2 => t_drawn (m := 10) z2 (by omega) (by omega) (fun M3 z3 o3 => t_drawn (m := 26) z3 (by omega) (by omega) (fun M4 z4 o4 => ?_)))
    have o := e0_tr (e0_tr (e0_tr o1 o2) o3) o4
    rw [show (30 : Int32) = nI 30 from rfl, show (3 : Int32) = nI 3 from rfl, z_mul, z_add, z_add, Nat.add_assoc, z_cl (by omega), z_in (by omega) (by omega)]
    refine ⟨by omega, hq _ (SV_n (SV_same hS (o.1 51 (by omega))) (by omega)) ?_ (gOff_tr (gOff_e o) (gOff_s (by omega)))⟩
    rw [xup_n (by omega)]; exact z4
  · rw [if_neg c0, if_neg c0] at hq
    refine ⟨fun q => absurd q c0, fun _ => ⟨fun q => ?_, fun q => ?_⟩⟩
    · rw [if_pos q, if_pos q] at hq
      refine t_drawn (m := 6) z1 (by omega) (by omega) (fun M2 z2 o2 => t_drawn (m := 10) z2 (by omega) (by omega) (fun M3 z3 o3 => t_drawn (m := 26) z3 (by omega) (by omega) (fun M4 z4 o4 => t_drawn (m := 10) z4 (by omega) (by omega) (fun M5 z5 o5 => ?_))))
      have o := e0_tr (e0_tr (e0_tr (e0_tr o1 o2) o3) o4) o5
      rw [show (60 : Int32) = nI 60 from rfl, show (6 : Int32) = nI 6 from rfl, show (26 : Int32) = nI 26 from rfl, z_mul, z_mul, z_add, z_add, z_add, Nat.add_assoc, z_cl (by omega), z_in (by omega) (by omega)]
      have sv := SV_e (x := 26 * dV (dS (dS (dS (dS z)))) 10 + dV (dS (dS (dS z))) 26) (SV_same hS (o.1 51 (by omega))) (show 6 * dV (dS (dS z)) 10 + dV (dS z) 6 < 60 by omega)
      rw [eM_some (by omega)] at sv
      refine ⟨by omega, hq _ sv ?_ (gOff_tr (gOff_e o) (gOff_s (by omega)))⟩
      rw [xup_n (by omega)]; exact z5
    · rw [if_neg q, if_neg q] at hq
      refine t_drawn (m := 10) z1 (by omega) (by omega) (fun M2 z2 o2 => t_drawn (m := 6) z2 (by omega) (by omega) (fun M3 z3 o3 => ?_))
      have o := e0_tr (e0_tr o1 o2) o3
      rw [show (0 : Int32) = nI 0 from rfl, z_add, Nat.zero_add, z_cl (by omega), z_in (by omega) (by omega)]
      refine ⟨by omega, hq _ (SV_n (SV_same hS (o.1 51 (by omega))) (by omega)) ?_ (gOff_tr (gOff_e o) (gOff_s (by omega)))⟩
      rw [xup_n (by omega)]; exact z3
def itF {α : Type} (f : α → α) (a : α) : Nat → α
  | 0 => a
  | n + 1 => f (itF f a n)
theorem itF_s {α : Type} (f : α → α) (a : α) (n : Nat) : itF f a (n + 1) = f (itF f a n) := rfl
theorem itF_0 {α : Type} (f : α → α) (a : α) : itF f a 0 = a := rfl
theorem sumN_s (f : Nat → Nat) (n : Nat) : sumN f (n + 1) = sumN f n + f n := rfl
def lotS (z : Int32) (n : Nat) : Int32 := itF pSeed z n
theorem lotS_0 (z : Int32) : lotS z 0 = z := itF_0 pSeed z
theorem lotS_s (z : Int32) (n : Nat) : lotS z (n + 1) = pSeed (lotS z n) := itF_s pSeed z n
def lotN (A : Nat → Nat) (z : Int32) : Nat → Nat → Nat
  | 0 => A
  | n + 1 => pLot (lotN A z n) (lotS z n)
theorem lotN_0 (A : Nat → Nat) (z : Int32) : lotN A z 0 = A := rfl
theorem lotN_s (A : Nat → Nat) (z : Int32) (n : Nat) : lotN A z (n + 1) = pLot (lotN A z n) (lotS z n) := rfl
theorem lotN_ok {z : Int32} (hO : aOK A) : ∀ n, aOK (lotN A z n)
  | 0 => by rw [lotN_0]; exact hO
  | n + 1 => by rw [lotN_s]; exact pLot_ok (lotN_ok hO n)
def lotF (z : Int32) : Int32 := lotS z 6
def lotZ (z : Int32) (k : Nat) : Int32 := itF lotF z k
theorem lotZ_0 (z : Int32) : lotZ z 0 = z := itF_0 lotF z
theorem lotZ_s (z : Int32) (k : Nat) : lotZ z (k + 1) = lotS (lotZ z k) 6 := itF_s lotF z k
/-- what a volume by lot counts for -/
def lotQ (rf : Nat → Bool) (A : Nat → Nat) (z : Int32) (k : Nat) : Nat := (pChk rf (lotN A (lotZ z k) 6)).2.length
def lotI (rf : Nat → Bool) (A : Nat → Nat) (z : Int32) (k : Nat) : Nat := fb_ct (aUse (pChk rf (lotN A (lotZ z k) 6)).1) 10
theorem k_lots {a z b : Int32} (h : Inv M) : wX3_lots M a z b (fun r M1 => wX4_lots M1 a z b (fun r2 M2 => r = r2 ∧ Inv M2)) := by
  have h0 := h
  obtain ⟨hR, A, rf, hV⟩ := h
  have hO := hV.2.1
  have go : ∀ n : Nat, n ≤ 20 → (b = 0 ∨ b = 1) → (1 : Int32) ≤ nI n → nI n ≤ 20 → wX3_lots_41 (nI n) z b (fun r M1 => wX4_lots M1 (nI n) z b (fun r2 M2 => r = r2 ∧ Inv M2)) M := fun n hn hb l1 l2 => by
    have hin := (two01 b).mpr hb
    obtain ⟨g, hg⟩ : ∃ g : Nat → Nat, g = if b = 0 then lotQ rf A z else lotI rf A z := ⟨_, rfl⟩
    have ref : ∀ M1, IV M1 A rf → cOff M M1 → wX4_lots M1 (nI n) z b (fun r2 M2 => nI (sumN g n) = r2 ∧ Inv M2) := by
      intro M1 i1 c1
      unfold wX4_lots
      refine ⟨fun _ => ⟨fun _ => ?_, fun q => absurd l2 q⟩, fun q => absurd l1 q⟩
      refine t_inA (n := 1) (by omega) (fun _ => ?_) (fun q => absurd hin q)
      refine r_keep i1.2.2.2.2.1 i1.2.2.2.2.2 (fun M2 f2 s2 t2 o2 => ?_)
      have key := z_loop (P := fun m k => ∀ M3, FR M3 A rf → dOff M1 M3 → M3 50 17 = lotZ z k → lX4_lots_59 (nI n) z b (fun r2 M2 => nI (sumN g n) = r2 ∧ Inv M2) m M3 (nI (sumN (lotQ rf A z) k)) (nI (sumN (lotI rf A z) k)) (nI k)) n (fun m M3 f3 d3 z3 => ?_) (fun m k hk hm M3 f3 d3 z3 => ?_)
      · obtain ⟨m, hm⟩ := key
        refine ⟨m, hm _ (FR_r f2 (xup_n (by omega))) ?_ (by rw [xup_at, upd, if_pos rfl, lotZ_0])⟩
        refine dOff_tr (dOff_53 o2) ⟨fun p a _ _ _ _ _ => xup_n a, fun j _ _ _ _ e => by rw [xup_at, upd, if_neg e]⟩
      · unfold lX4_lots_59 wX4_lots_128
        dsimp only
        rw [z_le (by omega) (by omega)]
        refine ⟨fun _ => r_back f3 (fun M4 s4 t4 f4 o4 => ?_), fun q => absurd (Nat.le_refl n) q⟩
        have fin := inv_q hR c1 i1 (dOff_tr d3 (dOff_51 o4)) s4 t4
        refine ⟨fun q => ⟨by rw [hg, if_neg q], fin⟩, fun q => ⟨by rw [hg, if_pos q], fin⟩⟩
      · unfold lX4_lots_59
        dsimp only
        rw [z_le (by omega) (by omega)]
        refine ⟨fun q => absurd q (by omega), fun _ => r_back f3 (fun M4 s4 t4 f4 o4 => ?_)⟩
        have z4 : M4 50 17 = lotZ z k := by rw [o4 50 (by omega)]; exact z3
        have d4 := dOff_tr d3 (dOff_51 o4)
        have k6 := z_loop (P := fun m6 j => ∀ M5, SV M5 (lotN A (lotZ z k) j) → M5 50 17 = lotS (lotZ z k) j → gOff M4 M5 → lX4_lots_72 (nI n) z b (fun r2 M2 => nI (sumN g n) = r2 ∧ Inv M2) (lX4_lots_59 (nI n) z b (fun r2 M2 => nI (sumN g n) = r2 ∧ Inv M2) m) m6 M5 (nI (sumN (lotQ rf A z) k)) (nI (sumN (lotI rf A z) k)) (nI k) (nI j)) 6 (fun m6 M5 s5 z5 g5 => ?_) (fun m6 j hj hm6 M5 s5 z5 g5 => ?_)
        · obtain ⟨m6, hm6⟩ := k6
          rw [lotN_0, lotS_0] at hm6
          exact ⟨m6, hm6 M4 s4 z4 gOff_rf⟩
        · unfold lX4_lots_72
          dsimp only
          refine ⟨fun _ => ?_, fun q => absurd (show (6 : Int32) ≤ nI 6 by decide) q⟩
          have t5 : M5 51 146 = bs rf 17 := g5.2.2.trans t4
          refine t_checks s5 (lotN_ok hO 6) t5 (fun M6 k6 o6 => t_inodes k6.1 k6.2.1 ?_)
          have e1 : (pChk rf (lotN A (lotZ z k) 6)).2.length = lotQ rf A z k := rfl
          have e2 : fb_ct (aUse (pChk rf (lotN A (lotZ z k) 6)).1) 10 = lotI rf A z k := rfl
          rw [e1, e2, nI_add, nI_add, nI_1, ← sumN_s, ← sumN_s]
          refine hm M6 (FR_r f4 ?_) (dOff_tr (dOff_tr d4 (dOff_g g5)) (dOff_r o6)) ?_
          · rw [o6.1 53 (by omega) (by omega) (by omega) (by omega) (by omega), g5.1 53 (by omega) (by omega)]
          · rw [o6.2.1 17 (by omega), lotZ_s]; exact z5
        · unfold lX4_lots_72
          dsimp only
          rw [show (6 : Int32) = nI 6 from rfl, z_le (by omega) (by omega), nI_1 j]
          rw [lotN_s, lotS_s] at hm6
          refine ⟨fun q => absurd q (by omega), fun _ => t_damages s5 z5 (fun M6 s6 z6 g6 => hm6 M6 s6 z6 (gOff_tr g5 g6))⟩
    unfold wX3_lots_41
    have tz : tOff M (xup M 0 12 z) := ⟨fun p a _ => xup_n a, fun k a => by rw [xup_at, upd, if_neg a]⟩
    have key := z_loop (P := fun m k => ∀ M3, IV M3 A rf → cOff M M3 → M3 0 12 = lotZ z k → lX3_lots_52 (nI n) z b (fun r M1 => wX4_lots M1 (nI n) z b (fun r2 M2 => r = r2 ∧ Inv M2)) m M3 (nI (sumN g k)) (nI k)) n (fun m M3 i3 c3 z3 => ?_) (fun m k hk hm M3 i3 c3 z3 => ?_)
    · obtain ⟨m, hm⟩ := key
      exact ⟨m, hm _ (IV_t hV tz) (cOff_t tz) (by rw [xup_at, upd, if_pos rfl, lotZ_0])⟩
    · unfold lX3_lots_52
      dsimp only
      rw [z_le (by omega) (by omega)]
      exact ⟨fun _ => ref M3 i3 c3, fun q => absurd (Nat.le_refl n) q⟩
    · unfold lX3_lots_52
      dsimp only
      rw [z_le (by omega) (by omega)]
      refine ⟨fun q => absurd q (by omega), fun _ => r_takeFrom (v := 8) (o := 1) xVol_at8 xVol_at1 (by omega) i3.1 (fun M4 v4 s4 => ?_)⟩
      have t4 := tOff_s s4
      have z4 : M4 0 12 = lotZ z k := by rw [s4 0 (by omega)]; exact z3
      have k6 := z_loop (P := fun m6 j => ∀ M5, CV M5 8 (lotN A (lotZ z k) j) → M5 0 12 = lotS (lotZ z k) j → tOff M3 M5 → lX3_lots_72 (nI n) z b (fun r M1 => wX4_lots M1 (nI n) z b (fun r2 M2 => r = r2 ∧ Inv M2)) (lX3_lots_52 (nI n) z b (fun r M1 => wX4_lots M1 (nI n) z b (fun r2 M2 => r = r2 ∧ Inv M2)) m) m6 M5 (nI (sumN g k)) (nI k) (nI j)) 6 (fun m6 M5 v5 z5 t5 => ?_) (fun m6 j hj hm6 M5 v5 z5 t5 => ?_)
      · obtain ⟨m6, hm6⟩ := k6
        rw [lotN_0, lotS_0] at hm6
        exact ⟨m6, hm6 M4 v4 z4 t4⟩
      · unfold lX3_lots_72 wX3_lots_133
        dsimp only
        refine ⟨fun _ => ?_, fun q => absurd (show (6 : Int32) ≤ nI 6 by decide) q⟩
        have i5 := IV_t i3 t5
        rw [i5.2.2.2.1]
        refine r_run (c := 22) (o := 8) (Or.inl rfl) xVol_at8 (by omega) (by omega) i5.2.2.1 (lotN_ok hO 6) (pChk_hJ (lotN_ok hO 6)) v5 (fun M6 k6 s6 => ?_)
        have i6 : IV M6 A rf := IV_c i5 fun p hp => s6 p (by omega)
        have c6 : cOff M M6 := cOff_tr (cOff_tr c3 (cOff_t t5)) (cOff_s s6 (by omega))
        have z6 : M6 0 12 = lotZ z (k + 1) := by rw [s6 0 (by omega), lotZ_s]; exact z5
        have hm2 : ∀ M3, IV M3 A rf → cOff M M3 → M3 0 12 = lotZ z (k + 1) → lX3_lots_52 (nI n) z b (fun r M1 => wX4_lots M1 (nI n) z b (fun r2 M2 => r = r2 ∧ Inv M2)) m M3 (nI (sumN g k + g k)) (nI (k + 1)) := hm
        have e4 : M6 22 4 = nI (lotQ rf A z k) := k6.2.2.1
        refine ⟨fun q => r_inodesInUse (v := 23) k6.1 k6.2.1 (s_popcount (by omega) _ ?_), fun q => ?_⟩
        · have e : fb_ct (aUse (pChk rf (lotN A (lotZ z k) 6)).1) 10 = g k := by rw [hg, if_neg q]; rfl
          rw [e, nI_add, nI_1]
          exact hm2 M6 i6 c6 z6
        · have e : lotQ rf A z k = g k := by rw [hg, if_pos q]
          rw [e4, e, nI_add, nI_1]
          exact hm2 M6 i6 c6 z6
      · unfold lX3_lots_72
        dsimp only
        rw [show (6 : Int32) = nI 6 from rfl, z_le (by omega) (by omega), nI_1 j]
        rw [lotN_s, lotS_s] at hm6
        refine ⟨fun q => absurd q (by omega), fun _ => c_change v5 z5 (fun M6 v6 z6 t6 => hm6 M6 v6 z6 (tOff_tr t5 t6))⟩
  unfold wX3_lots
  refine ⟨fun l1 => ⟨fun l2 => ?_, fun l2 => ?_⟩, fun l1 => ?_⟩
  · have l0 : (0 : Int32) ≤ a := by
      rw [Int32.le_iff_toInt_le] at l1 ⊢
      have e1 : (1 : Int32).toInt = 1 := rfl
      have e0 : (0 : Int32).toInt = 0 := rfl
      omega
    obtain ⟨n, hn, rfl⟩ := nn_of (N := 20) (by omega) l0 l2
    refine ⟨fun q => go n hn (Or.inl q) l1 l2, fun q => ⟨fun q2 => go n hn (Or.inr q2) l1 l2, fun q2 => ?_⟩⟩
    unfold wX4_lots
    refine k_ref (n := 2) (by omega) ?_
    exact ⟨fun _ => ⟨fun _ => t_inA (n := 1) (by omega) (fun w => absurd ((two01 b).mp w) (fun w => w.elim q q2)) (fun _ => fin_ref (by omega) h0), fun w => absurd l2 w⟩, fun w => absurd l1 w⟩
  · unfold wX4_lots
    refine k_ref (n := 6) (by omega) ?_
    exact ⟨fun _ => ⟨fun w => absurd w l2, fun _ => fin_ref (by omega) h0⟩, fun w => absurd l1 w⟩
  · unfold wX4_lots
    refine k_ref (n := 4) (by omega) ?_
    exact ⟨fun w => absurd w l1, fun _ => fin_ref (by omega) h0⟩
end K9
