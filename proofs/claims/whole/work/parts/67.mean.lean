/-! fractions in least terms; MEAN -/
section K7
variable {M : xM} {A : Nat → Nat} {rf : Nat → Bool}
theorem gc_s (x : Nat) {y : Nat} (_h : 0 < y) : Nat.gcd y (x % y) = Nat.gcd x y := by
  rw [Nat.gcd_comm y (x % y), ← Nat.gcd_rec y x, Nat.gcd_comm]
theorem t_lowLoop {p1 p2 : Int64} {p3 : Int32} {Q : Int64 → xM → Prop} : ∀ (n x y : Nat), y < n → x < 2 ^ 62 → y < 2 ^ 62 → ((¬ p3 = 0 → wX4_lowest_41 p1 p2 p3 Q M (lN (Nat.gcd x y)) p2) ∧ (p3 = 0 → wX4_lowest_41 p1 p2 p3 Q M (lN (Nat.gcd x y)) p1)) → lX4_lowest_6 p1 p2 p3 Q n M (lN x) (lN y)
  | 0, _, _, h, _, _, _ => absurd h (Nat.not_lt_zero _)
  | n + 1, x, y, h, hx, hy, hq => by
    unfold lX4_lowest_6
    dsimp only
    rw [lg_cmp_eq, show (0 : Int64) = lN 0 from rfl, pk_lEQ (by omega) (by omega)]
    refine ⟨fun z => ?_, fun z => ⟨z, ?_⟩⟩
    · rw [z, Nat.gcd_zero_right] at hq; exact hq
    · have hl := Nat.mod_lt x (show 0 < y by omega)
      rw [pk_lRem (by omega) (by omega) (by omega)]
      exact t_lowLoop n y (x % y) (by omega) hy (by omega) (by rw [gc_s x (by omega)]; exact hq)
theorem t_low {u w : Nat} {p3 : Int32} {Q : Int64 → xM → Prop} (hu : u < 2 ^ 62) (h0 : 0 < w) (hw : w < 2 ^ 62) (hq0 : p3 = 0 → Q (lN (u / Nat.gcd u w)) M) (hq1 : ¬ p3 = 0 → Q (lN (w / Nat.gcd u w)) M) : wX4_lowest M (lN u) (lN w) p3 Q := by
  have hg : 0 < Nat.gcd u w := Nat.gcd_pos_of_pos_right u h0
  have hl : Nat.gcd u w ≤ w := Nat.le_of_dvd h0 (Nat.gcd_dvd_right u w)
  unfold wX4_lowest
  refine ⟨w + 1, t_lowLoop (w + 1) u w (by omega) hu hw ?_⟩
  unfold wX4_lowest_41
  have nz : ¬ lN (Nat.gcd u w) = 0 := by
    rw [show (0 : Int64) = lN 0 from rfl, pk_lEQ (by omega) (by omega)]; omega
  rw [pk_lDiv (by omega) hg (by omega), pk_lDiv (by omega) hg (by omega)]
  exact ⟨fun z => ⟨nz, hq1 z⟩, fun z => ⟨nz, hq0 z⟩⟩
theorem c_fracLoop {p1 p2 : Int64} {p3 : Int32} {Q : Int64 → xM → Prop} : ∀ (k x y c : Nat), y ≤ x → 0 < x → x < 2 ^ 62 → x * y < 2 ^ k → c + k + 1 ≤ 200 → wX3_partOfFraction_68 p1 p2 p3 Q M (lN (Nat.gcd x y)) → lX3_partOfFraction_32 p1 p2 p3 Q (k + 2) M (lN x) (lN y) (nI c)
  | k, x, y, c, hyx, h0, hx, hxy, hc, hq => by
    unfold lX3_partOfFraction_32
    dsimp only
    rw [lg_cmp_le, show (0 : Int64) = lN 0 from rfl, show (200 : Int32) = nI 200 from rfl, pk_lLE (by omega) (by omega), pk_lEQ (by omega) (by omega), z_le (by omega) (by omega)]
    refine ⟨fun z => absurd z (by omega), fun _ => ⟨fun z => ?_, fun z => ⟨by omega, ?_⟩⟩⟩
    · rw [show y = 0 by omega, Nat.gcd_zero_right] at hq; exact hq
    · have hl := Nat.mod_lt x (show 0 < y by omega)
      have h1 : x = y * (x / y) + x % y := (Nat.div_add_mod x y).symm
      have h2 : 1 ≤ x / y := (Nat.one_le_div_iff (by omega)).mpr hyx
      have h3 : y ≤ y * (x / y) := Nat.le_mul_of_pos_right y h2
      have h4 : 2 * (x % y) ≤ x := by omega
      have h5 : 2 * (y * (x % y)) ≤ x * y := by
        have := Nat.mul_le_mul_left y h4
        rw [Nat.mul_comm x y, show 2 * (y * (x % y)) = y * (2 * (x % y)) by rw [← Nat.mul_assoc, Nat.mul_comm 2 y, Nat.mul_assoc]]
        exact this
      have h6 : 1 ≤ x * y := Nat.mul_pos h0 (show 0 < y by omega)
      match k, hxy, hc with
      | 0, hxy, _ => exact absurd hxy (by rw [Nat.pow_zero]; omega)
      | k + 1, hxy, hc =>
        rw [pk_lRem (by omega) (by omega) (by omega), nI_1]
        exact c_fracLoop k y (x % y) (c + 1) (by omega) (by omega) (by omega) (by rw [Nat.pow_succ] at hxy; omega) (by omega) (by rw [gc_s x (by omega)]; exact hq)
theorem c_frac {u w : Nat} {p3 : Int32} {Q : Int64 → xM → Prop} (hu0 : 0 < u) (hu : u < 2 ^ 30) (h0 : 0 < w) (hw : w < 2 ^ 30) (hq0 : p3 = 0 → Q (lN (u / Nat.gcd u w)) M) (hq1 : ¬ p3 = 0 → Q (lN (w / Nat.gcd u w)) M) : wX3_partOfFraction M (lN u) (lN w) p3 Q := by
  have hg : 0 < Nat.gcd u w := Nat.gcd_pos_of_pos_right u h0
  have hl : Nat.gcd u w ≤ w := Nat.le_of_dvd h0 (Nat.gcd_dvd_right u w)
  have fin : wX3_partOfFraction_68 (lN u) (lN w) p3 Q M (lN (Nat.gcd u w)) := by
    unfold wX3_partOfFraction_68 wX3_partOfFraction_78
    have e1 : (if lN (Nat.gcd u w) < (1 : Int64) then (1 : Int64) else lN (Nat.gcd u w)) = lN (Nat.gcd u w) := by
      rw [if_neg]
      rw [show (1 : Int64) = lN 1 from rfl, pk_lLT (by omega) (by omega)]; omega
    have nz : ¬ lN (Nat.gcd u w) = 0 := by
      rw [show (0 : Int64) = lN 0 from rfl, pk_lEQ (by omega) (by omega)]; omega
    rw [e1, pk_lDiv (by omega) hg (by omega), pk_lDiv (by omega) hg (by omega)]
    exact ⟨fun z => ⟨nz, hq1 z⟩, fun z => ⟨nz, hq0 z⟩⟩
  unfold wX3_partOfFraction
  rw [lg_cmp_lt, lg_cmp_ge, show (1 : Int64) = lN 1 from rfl, pk_lLT (by omega) (by omega), pk_lLE (by omega) (by omega)]
  refine ⟨fun z => absurd z (by omega), fun _ => ⟨fun _ => ?_, fun z => absurd h0 z⟩⟩
  have hm := Nat.mod_lt u h0
  refine ⟨64 + 2 + 1, ?_⟩
  unfold lX3_partOfFraction_32
  dsimp only
  rw [lg_cmp_le, show (0 : Int64) = lN 0 from rfl, show (200 : Int32) ≤ 0 ↔ False from by decide, pk_lLE (by omega) (by omega), pk_lEQ (by omega) (by omega)]
  refine ⟨fun z => z.elim, fun _ => ⟨fun z => absurd z (by omega), fun _ => ⟨by omega, ?_⟩⟩⟩
  rw [pk_lRem (by omega) (by omega) (by omega), show (0 : Int32) + 1 = nI 1 from rfl]
  refine c_fracLoop 64 w (u % w) 1 (by omega) h0 (by omega) ?_ (by omega) (by rw [gc_s u h0]; exact fin)
  calc w * (u % w) ≤ 2 ^ 30 * 2 ^ 30 := Nat.mul_le_mul (by omega) (by omega)
    _ < 2 ^ 64 := by decide
theorem c_frac0 {u w : Nat} {p3 : Int32} {Q : Int64 → xM → Prop} (h : u = 0 ∨ w = 0) (hu : u < 2 ^ 30) (hw : w < 2 ^ 30) (hq0 : p3 = 0 → Q 0 M) (hq1 : ¬ p3 = 0 → Q 1 M) : wX3_partOfFraction M (lN u) (lN w) p3 Q := by
  have fin : wX3_partOfFraction_12 (lN u) (lN w) p3 Q M := by
    unfold wX3_partOfFraction_12 wX3_partOfFraction_22
    exact ⟨fun z => hq1 z, fun z => hq0 z⟩
  unfold wX3_partOfFraction
  rw [lg_cmp_lt, lg_cmp_ge, show (1 : Int64) = lN 1 from rfl, pk_lLT (by omega) (by omega), pk_lLE (by omega) (by omega)]
  exact ⟨fun _ => fin, fun z => ⟨fun z2 => absurd h (by omega), fun _ => fin⟩⟩
/-- the fraction's part told: above (0), below -/
def frV (u w : Nat) (a : Int32) : Int64 := if w = 0 then a.toInt64 else if a = 0 then lN (u / Nat.gcd u w) else lN (w / Nat.gcd u w)
theorem c_frV {u w : Nat} {a : Int32} {Q : Int64 → xM → Prop} (ha : a = 0 ∨ a = 1) (hu : u < 2 ^ 30) (hw : w < 2 ^ 30) (hq : Q (frV u w a) M) : wX3_partOfFraction M (lN u) (lN w) a Q := by
  have n1 : ¬ (1 : Int32) = 0 := by decide
  unfold frV at hq
  by_cases h : u = 0 ∨ w = 0
  · refine c_frac0 h hu hw (fun z => ?_) (fun z => ?_)
    · subst z
      by_cases q : w = 0
      · rw [if_pos q] at hq; exact hq
      · rw [if_neg q, if_pos rfl, h.resolve_right q, Nat.zero_div] at hq; exact hq
    · rcases ha with ha | ha
      · exact absurd ha z
      · subst ha
        by_cases q : w = 0
        · rw [if_pos q] at hq; exact hq
        · rw [if_neg q, if_neg n1, h.resolve_right q, Nat.gcd_zero_left, Nat.div_self (by omega)] at hq; exact hq
  · have hw0 : ¬ w = 0 := fun q => h (Or.inr q)
    rw [if_neg hw0] at hq
    refine c_frac (by omega) hu (by omega) hw (fun z => ?_) (fun z => ?_)
    · rw [if_pos z] at hq; exact hq
    · rw [if_neg z] at hq; exact hq
theorem t_frV {u w : Nat} {a : Int32} {Q : Int64 → xM → Prop} (hu : u < 2 ^ 30) (h0 : ¬ w = 0) (hw : w < 2 ^ 30) (hq : Q (frV u w a) M) : wX4_lowest M (lN u) (lN w) a Q := by
  unfold frV at hq
  rw [if_neg h0] at hq
  refine t_low (by omega) (by omega) (by omega) (fun z => ?_) (fun z => ?_)
  · rw [if_pos z] at hq; exact hq
  · rw [if_neg z] at hq; exact hq
theorem fin_refL {n : Nat} (hn : n = 1 ∨ n = 2 ∨ n = 3 ∨ n = 4 ∨ n = 6) (h : Inv M) : wX4_refusedLong (refd M n) (-nI n) (fun r2 M2 => (4000000000000000000 : Int64) - (-nI n).toInt64 = r2 ∧ Inv M2) := t_refL hn ⟨rfl, inv_ref h⟩
def sumN (f : Nat → Nat) : Nat → Nat
  | 0 => 0
  | n + 1 => sumN f n + f n
theorem sumN_le (f : Nat → Nat) (c : Nat) (h : ∀ k, f k ≤ c) : ∀ n, sumN f n ≤ n * c
  | 0 => by rw [Nat.zero_mul]; exact Nat.le_refl 0
  | n + 1 => by
    have h1 := sumN_le f c h n
    have h2 := h n
    show sumN f n + f n ≤ (n + 1) * c
    rw [Nat.add_mul, Nat.one_mul]; omega
theorem k_mean {a : Int32} (h : Inv M) : wX3_mean M a (fun r M1 => wX4_mean M1 a (fun r2 M2 => r = r2 ∧ Inv M2)) := by
  have h0 := h
  obtain ⟨hR, A, rf, v1, v2, v3, v4, v5, v6⟩ := h
  obtain ⟨f, hf⟩ : ∃ f : Nat → Nat, f = fun b => fb_ct (aTo A b) 30 := ⟨_, rfl⟩
  have hfb : ∀ b, fb_ct (aTo A b) 30 = f b := fun b => by rw [hf]
  have hs := sumN_le f 30 (fun b => by rw [← hfb]; exact fb_ct_le _ 30)
  have hc := fb_ct_le (aUse A) 10
  have go : (a = 0 ∨ a = 1) → wX3_mean_21 a (fun r M1 => wX4_mean M1 a (fun r2 M2 => r = r2 ∧ Inv M2)) M := fun ha => by
    have hin := (two01 a).mpr ha
    have ref : wX4_mean M a (fun r2 M2 => frV (sumN f 24) (fb_ct (aUse A) 10) a = r2 ∧ Inv M2) := by
      unfold wX4_mean
      refine t_inA (n := 1) (by omega) (fun _ => ?_) (fun q => absurd hin q)
      refine z_loop (P := fun n j => lX4_mean_21 a (fun r2 M2 => frV (sumN f 24) (fb_ct (aUse A) 10) a = r2 ∧ Inv M2) n M (lN (sumN f j)) (nI j)) 24 (fun n => ?_) (fun n j hj hn => ?_)
      · have hs24 := hs 24
        unfold lX4_mean_21 wX4_mean_66
        dsimp only
        refine ⟨fun _ => t_inodes v5 v2 ⟨fun z => t_inodes v5 v2 ?_, fun z => ⟨?_, h0⟩⟩, fun z => absurd (show (24 : Int32) ≤ nI 24 by decide) z⟩
        · rw [nI_l (by omega)]
          refine t_frV (by omega) (fun q => z (by rw [q]; rfl)) (by omega) ⟨rfl, h0⟩
        · rw [show (0 : Int32) = nI 0 from rfl, z_eq (by omega) (by omega)] at z
          unfold frV; rw [if_pos z]
      · have hn' : lX4_mean_21 a (fun r2 M2 => frV (sumN f 24) (fb_ct (aUse A) 10) a = r2 ∧ Inv M2) n M (lN (sumN f j + f j)) (nI (j + 1)) := hn
        have hfj : f j ≤ 30 := by rw [← hfb]; exact fb_ct_le _ 30
        unfold lX4_mean_21
        dsimp only
        rw [show (24 : Int32) = nI 24 from rfl, z_le (by omega) (by omega), nI_1]
        refine ⟨fun z => absurd z (by omega), fun _ => t_pointersTo v5 v2 (by omega) ?_⟩
        rw [hfb, nI_l (by omega), lN_add]
        exact hn'
    unfold wX3_mean_21
    refine z_loop (P := fun n j => lX3_mean_25 a (fun r M1 => wX4_mean M1 a (fun r2 M2 => r = r2 ∧ Inv M2)) n M (nI (sumN f j)) (nI j)) 24 (fun n => ?_) (fun n j hj hn => ?_)
    · have hs24 := hs 24
      unfold lX3_mean_25
      dsimp only
      refine ⟨fun _ => r_inodesInUse (v := 1) v1 v2 (s_popcount (by omega) _ ?_), fun z => absurd (show (24 : Int32) ≤ nI 24 by decide) z⟩
      rw [nI_l (by omega), nI_l (by omega)]
      exact c_frV ha (by omega) (by omega) ref
    · have hn' : lX3_mean_25 a (fun r M1 => wX4_mean M1 a (fun r2 M2 => r = r2 ∧ Inv M2)) n M (nI (sumN f j + f j)) (nI (j + 1)) := hn
      unfold lX3_mean_25
      dsimp only
      rw [show (24 : Int32) = nI 24 from rfl, z_le (by omega) (by omega), nI_1]
      refine ⟨fun z => absurd z (by omega), fun _ => r_pointersTo (v := 1) xVol_at1 v1 v2 (by omega) ?_⟩
      rw [hfb, nI_add]
      exact hn'
  unfold wX3_mean
  refine ⟨fun z => go (Or.inl z), fun z => ⟨fun z2 => go (Or.inr z2), fun z2 => ?_⟩⟩
  unfold wX4_mean
  refine k_ref (n := 2) (by omega) ?_
  exact t_inA (n := 1) (by omega) (fun q => absurd ((two01 a).mp q) (fun w => w.elim z z2)) (fun _ => fin_refL (by omega) h0)
end K7
