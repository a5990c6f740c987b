/-! DAMAGE by odds -/
section KA
variable {M : xM} {A : Nat → Nat} {rf : Nat → Bool}
/-- how many of the six are wiped; the odds' weight -/
def pcN (w : Nat) : Nat := fb_ct (fun i => w.testBit i) 6
theorem pcN_24 : ∀ w, w < 64 → fb_ct (fun i => w.testBit i) 24 = fb_ct (fun i => w.testBit i) 6 := by decide +kernel
theorem wgt_all : ∀ t, t < 21 → 2 ≤ t → sumN (fun w => (t - 1) ^ (6 - pcN w)) 64 = t ^ 6 ∧ t ^ 6 ≤ 64000000 := by decide +kernel
def wA (A : Nat → Nat) (w : Nat) : Nat → Nat → Nat
  | 0 => A
  | j + 1 => if w.testBit j = true then aWipe (wA A w j) (j + 1) 0 else wA A w j
theorem wA_ok {w : Nat} (hO : aOK A) : ∀ j, j ≤ 6 → aOK (wA A w j)
  | 0, _ => hO
  | j + 1, h => by
    have h1 := wA_ok (w := w) hO j (by omega)
    show aOK (if w.testBit j = true then aWipe (wA A w j) (j + 1) 0 else wA A w j)
    by_cases e : w.testBit j = true
    · rw [if_pos e]; exact aOK_wipe h1 (by omega) (by omega)
    · rw [if_neg e]; exact h1
/-- how many are left behind a check -/
def nLeft (rf : Nat → Bool) (A : Nat → Nat) (w : Nat) : Nat := fb_ct (aUse (pChk rf (wA A w 6)).1) 10
theorem w_test {w j : Nat} (hw : w < 64) (hj : j < 6) : ((nI w >>> (nI j &&& 31)) &&& 1) = if w.testBit j = true then 1 else 0 := by
  rw [bt_test (nI w) (by omega), bt_nI (by omega)]
theorem sumN_mono {f g : Nat → Nat} (h : ∀ k, f k ≤ g k) : ∀ n, sumN f n ≤ sumN g n
  | 0 => Nat.le_refl 0
  | n + 1 => Nat.add_le_add (sumN_mono h n) (h n)
theorem c_power {b e : Nat} {Q : Int64 → xM → Prop} (hb : b < 1000) (he : e < 1000) (hq : Q (lN (b ^ e)) M) : wX3_power M (nI b) (nI e) Q := by
  unfold wX3_power
  refine z_loop (P := fun n j => lX3_power_5 (nI b) (nI e) Q n M (lN (b ^ j)) (nI j)) e (fun n => ?_) (fun n j hj hn => ?_)
  · unfold lX3_power_5
    dsimp only
    rw [z_le (by omega) (by omega)]
    exact ⟨fun _ => hq, fun q => absurd (Nat.le_refl e) q⟩
  · unfold lX3_power_5
    dsimp only
    rw [z_le (by omega) (by omega), nI_l (by omega), lN_mul, nI_1]
    refine ⟨fun q => absurd q (by omega), fun _ => ?_⟩
    rw [← Nat.pow_succ]; exact hn
theorem c_left {w : Nat} {Q : Int32 → xM → Prop} (h : IV M A rf) (hw : w < 64) (hq : ∀ M1, IV M1 A rf → cOff M M1 → Q (nI (nLeft rf A w)) M1) : wX3_leftWithout M (nI w) Q := by
  have hO := h.2.1
  unfold wX3_leftWithout
  refine r_takeFrom (v := 8) (o := 1) xVol_at8 xVol_at1 (by omega) h.1 (fun M1 v1 s1 => ?_)
  have key := z_loop (P := fun n j => ∀ M2, CV M2 8 (wA A w j) → tOff M M2 → lX3_leftWithout_13 (nI w) Q n M2 (nI j)) 6 (fun n M2 v2 t2 => ?_) (fun n j hj hn M2 v2 t2 => ?_)
  · obtain ⟨n, hn⟩ := key
    exact ⟨n, hn M1 v1 (tOff_s s1)⟩
  · have hk := wA_ok (w := w) hO 6 (by omega)
    unfold lX3_leftWithout_13
    dsimp only
    refine ⟨fun _ => ?_, fun q => absurd (show (6 : Int32) ≤ nI 6 by decide) q⟩
    refine c_runT (IV_t h t2) v2 hk (fun M3 k3 i3 c3 => ?_)
    exact r_inodesInUse (v := 23) k3.1 k3.2.1 (s_popcount (by omega) _ (hq M3 i3 (cOff_tr (cOff_t t2) c3)))
  · have hn' : ∀ M2, CV M2 8 (if w.testBit j = true then aWipe (wA A w j) (j + 1) 0 else wA A w j) → tOff M M2 → lX3_leftWithout_13 (nI w) Q n M2 (nI (j + 1)) := hn
    unfold lX3_leftWithout_13 wX3_leftWithout_37
    dsimp only
    rw [show (6 : Int32) = nI 6 from rfl, z_le (by omega) (by omega), w_test hw hj, nI_1]
    refine ⟨fun q => absurd q (by omega), fun _ => ⟨fun z => ?_, fun z => ?_⟩⟩
    · have e : ¬ w.testBit j = true := fun q => by rw [if_pos q] at z; exact absurd z (by decide)
      refine hn' M2 ?_ t2
      rw [if_neg e]; exact v2
    · have e : w.testBit j = true := by
        cases q : w.testBit j with
        | true => rfl
        | false => rw [q] at z; exact absurd rfl z
      refine r_wipe (v := 8) (i := j + 1) v2 (by omega) (fun M3 v3 s3 => hn' M3 ?_ (tOff_tr t2 (tOff_s s3)))
      rw [if_pos e]; exact v3
/-- the sums -/
def oddG (rf : Nat → Bool) (A : Nat → Nat) (v t w : Nat) : Nat := if nLeft rf A w < v then 0 else (t - 1) ^ (6 - pcN w)
theorem wgt_s {w t j : Nat} : (t - 1) ^ (j - fb_ct (fun i => w.testBit i) j) * (if w.testBit j = true then 1 else t - 1) = (t - 1) ^ (j + 1 - fb_ct (fun i => w.testBit i) (j + 1)) := by
  have h := fb_ct_le (fun i => w.testBit i) j
  rw [fb_ct_succ]
  by_cases e : w.testBit j = true
  · rw [if_pos e, if_pos e, Nat.mul_one]; congr 1; omega
  · rw [if_neg e, if_neg e, ← Nat.pow_succ]; congr 1; omega
theorem t_damageIn {w v t : Nat} {b : Int32} {M1 : xM} {S W : Nat} {Q : Int64 → xM → Prop} {k64 : xM → Int64 → Int64 → Int32 → Prop} (hO : aOK A) (hw : w < 64) (hv : v ≤ 10) (ht : 2 ≤ t ∧ t ≤ 20) (hS : SV M A) (h6 : M 51 146 = bs rf 17) (hF : FR M A rf) (hd : dOff M1 M)
    (hk : ∀ M2, FR M2 A rf → dOff M1 M2 → k64 M2 (lN (S + oddG rf A v t w)) (lN (W + (t - 1) ^ (6 - pcN w))) (nI (w + 1))) : ∃ n, lX4_damage_81 (nI v) (nI t) b Q k64 n M (lN S) (lN W) (nI w) 1 0 := by
  have key := z_loop (P := fun n j => ∀ M2, SV M2 (wA A w j) → M2 51 146 = bs rf 17 → FR M2 A rf → dOff M1 M2 → lX4_damage_81 (nI v) (nI t) b Q k64 n M2 (lN S) (lN W) (nI w) (lN ((t - 1) ^ (j - fb_ct (fun i => w.testBit i) j))) (nI j)) 6 (fun n M2 s2 t2 f2 d2 => ?_) (fun n j hj hn M2 s2 t2 f2 d2 => ?_)
  · obtain ⟨n, hn⟩ := key
    exact ⟨n, hn M hS h6 hF hd⟩
  · have hk6 := wA_ok (w := w) hO 6 (by omega)
    unfold lX4_damage_81 wX4_damage_165
    dsimp only
    refine ⟨fun _ => ?_, fun q => absurd (show (6 : Int32) ≤ nI 6 by decide) q⟩
    refine r_chk s2 hk6 t2 f2 (fun M3 k3 f3 d3 => t_inodes k3.1 k3.2.1 ?_)
    have hl : nLeft rf A w ≤ 10 := fb_ct_le _ 10
    have hk3 := hk M3 f3 (dOff_tr d2 d3)
    have e : fb_ct (aUse (pChk rf (wA A w 6)).1) 10 = nLeft rf A w := rfl
    have e2 : fb_ct (fun i => w.testBit i) 6 = pcN w := rfl
    unfold oddG at hk3
    rw [e, e2, z_lt (by omega) (by omega), nI_1, lN_add]
    refine ⟨fun z => ?_, fun z => ?_⟩
    · rw [if_pos z] at hk3
      rw [show (0 : Int64) = lN 0 from rfl, lN_add]; exact hk3
    · rw [if_neg z] at hk3
      rw [lN_add]; exact hk3
  · have hn' : ∀ M2, SV M2 (if w.testBit j = true then aWipe (wA A w j) (j + 1) 0 else wA A w j) → M2 51 146 = bs rf 17 → FR M2 A rf → dOff M1 M2 → lX4_damage_81 (nI v) (nI t) b Q k64 n M2 (lN S) (lN W) (nI w) (lN ((t - 1) ^ (j - fb_ct (fun i => w.testBit i) j) * (if w.testBit j = true then 1 else t - 1))) (nI (j + 1)) := fun M2 => by
      rw [wgt_s]; exact hn M2
    unfold lX4_damage_81 wX4_damage_104 wX4_damage_121 wX4_damage_138
    dsimp only
    rw [show (6 : Int32) = nI 6 from rfl, z_le (by omega) (by omega), w_test hw hj, nI_1]
    refine ⟨fun q => absurd q (by omega), fun _ => ⟨fun z => ?_, fun z => ?_⟩⟩
    · have e : ¬ w.testBit j = true := fun q => z (by rw [if_pos q])
      refine ⟨fun _ => ⟨fun _ => ?_, fun q => absurd rfl q⟩, fun q => absurd rfl q⟩
      have := hn' M2 (by rw [if_neg e]; exact s2) t2 f2 d2
      rw [if_neg e, ← lN_mul] at this
      rw [show nI t - (1 : Int32) = nI (t - 1) from z_sub (b := 1) (by omega), nI_l (by omega)]
      exact this
    · have e : w.testBit j = true := by
        cases q : w.testBit j with
        | true => rfl
        | false => rw [q] at z; exact absurd z (by decide)
      refine ⟨fun q => absurd q (by decide), fun _ => ⟨fun q => absurd q (by decide), fun _ => ?_⟩⟩
      refine t_wipes (i := j + 1) (kd := 0) s2 (by omega) (fun M3 s3 o3 t3 => ?_)
      have := hn' M3 (by rw [if_pos e]; exact s3) (t3.trans t2) (FR_r f2 (o3 53 (by omega))) (dOff_tr d2 (dOff_51 o3))
      rw [if_pos e, ← lN_mul] at this
      exact this
theorem k_damage {a t b : Int32} (h : Inv M) : wX3_damage M a t b (fun r M1 => wX4_damage M1 a t b (fun r2 M2 => r = r2 ∧ Inv M2)) := by
  have h0 := h
  obtain ⟨hR, A, rf, hV⟩ := h
  have hO := hV.2.1
  have go : ∀ v n : Nat, v ≤ 10 → 2 ≤ n → n ≤ 20 → (b = 0 ∨ b = 1) → ¬ nI v < 0 → (2 : Int32) ≤ nI n → ¬ (10 : Int32) < nI v → nI n ≤ (20 : Int32) → wX3_damage_66 (nI v) (nI n) b (fun r M1 => wX4_damage M1 (nI v) (nI n) b (fun r2 M2 => r = r2 ∧ Inv M2)) M := fun v n hv hn2 hn hb y1 y2 y3 y4 => by
    have hin := (two01 b).mpr hb
    have hall := wgt_all n (by omega) hn2
    obtain ⟨g, hg⟩ : ∃ g : Nat → Nat, g = oddG rf A v n := ⟨_, rfl⟩
    obtain ⟨f, hf⟩ : ∃ f : Nat → Nat, f = fun w => (n - 1) ^ (6 - pcN w) := ⟨_, rfl⟩
    have hgf : ∀ k, g k ≤ f k := fun k => by
      rw [hg, hf]; unfold oddG
      show (if nLeft rf A k < v then 0 else (n - 1) ^ (6 - pcN k)) ≤ (n - 1) ^ (6 - pcN k)
      by_cases z : nLeft rf A k < v
      · rw [if_pos z]; exact Nat.zero_le _
      · rw [if_neg z]; exact Nat.le_refl _
    have hle := sumN_mono hgf 64
    have hfs : sumN f 64 = n ^ 6 := by rw [hf]; exact hall.1
    have hgj : ∀ j, oddG rf A v n j = g j := fun j => by rw [hg]
    have hfj : ∀ j, (n - 1) ^ (6 - pcN j) = f j := fun j => by rw [hf]
    have ref : ∀ M1, IV M1 A rf → cOff M M1 → wX4_damage M1 (nI v) (nI n) b (fun r2 M2 => frV (sumN g 64) (n ^ 6) b = r2 ∧ Inv M2) := by
      intro M1 i1 c1
      unfold wX4_damage
      refine ⟨fun q => absurd q y1, fun _ => ⟨fun _ => ⟨fun q => absurd q y3, fun _ => ⟨fun _ => ?_, fun q => absurd y4 q⟩⟩, fun q => absurd y2 q⟩⟩
      refine t_inA (n := 1) (by omega) (fun _ => ?_) (fun q => absurd hin q)
      refine r_keep i1.2.2.2.2.1 i1.2.2.2.2.2 (fun M2 f2 s2 t2 o2 => ?_)
      have key := z_loop (P := fun m w => ∀ M3, FR M3 A rf → dOff M1 M3 → lX4_damage_64 (nI v) (nI n) b (fun r2 M2 => frV (sumN g 64) (n ^ 6) b = r2 ∧ Inv M2) m M3 (lN (sumN g w)) (lN (sumN f w)) (nI w)) 64 (fun m M3 f3 d3 => ?_) (fun m w hw hm M3 f3 d3 => ?_)
      · obtain ⟨m, hm⟩ := key
        exact ⟨m, hm M2 f2 (dOff_53 o2)⟩
      · unfold lX4_damage_64
        dsimp only
        refine ⟨fun _ => r_back f3 (fun M4 s4 t4 f4 o4 => ?_), fun q => absurd (show (64 : Int32) ≤ nI 64 by decide) q⟩
        rw [hfs]
        have hp : 0 < n ^ 6 := Nat.pow_pos (by omega)
        exact t_frV (by omega) (by omega) (by omega) ⟨rfl, inv_q hR c1 i1 (dOff_tr d3 (dOff_51 o4)) s4 t4⟩
      · unfold lX4_damage_64
        dsimp only
        rw [show (64 : Int32) = nI 64 from rfl, z_le (by omega) (by omega)]
        refine ⟨fun q => absurd q (by omega), fun _ => r_back f3 (fun M4 s4 t4 f4 o4 => ?_)⟩
        refine t_damageIn hO hw hv ⟨hn2, hn⟩ s4 t4 f4 (dOff_tr d3 (dOff_51 o4)) (fun M5 f5 d5 => ?_)
        rw [hgj, hfj]
        exact hm M5 f5 d5
    unfold wX3_damage_66
    have key := z_loop (P := fun m w => ∀ M3, IV M3 A rf → cOff M M3 → lX3_damage_72 (nI v) (nI n) b (fun r M1 => wX4_damage M1 (nI v) (nI n) b (fun r2 M2 => r = r2 ∧ Inv M2)) m M3 (lN (sumN g w)) (nI w)) 64 (fun m M3 i3 c3 => ?_) (fun m w hw hm M3 i3 c3 => ?_)
    · obtain ⟨m, hm⟩ := key
      exact ⟨m, hm M hV cOff_rf⟩
    · unfold lX3_damage_72
      dsimp only
      refine ⟨fun _ => c_power (b := n) (e := 6) (by omega) (by omega) ?_, fun q => absurd (show (64 : Int32) ≤ nI 64 by decide) q⟩
      exact c_frV hb (by omega) (by omega) (ref M3 i3 c3)
    · have hm' : ∀ M3, IV M3 A rf → cOff M M3 → lX3_damage_72 (nI v) (nI n) b (fun r M1 => wX4_damage M1 (nI v) (nI n) b (fun r2 M2 => r = r2 ∧ Inv M2)) m M3 (lN (sumN g w + g w)) (nI (w + 1)) := hm
      unfold lX3_damage_72 wX3_damage_108
      dsimp only
      rw [show (64 : Int32) = nI 64 from rfl, z_le (by omega) (by omega), nI_1]
      refine ⟨fun q => absurd q (by omega), fun _ => c_left i3 hw (fun M4 i4 c4 => ?_)⟩
      have hl : nLeft rf A w ≤ 10 := fb_ct_le _ 10
      have c34 := cOff_tr c3 c4
      have hp : pcN w ≤ 6 := fb_ct_le _ 6
      rw [z_lt (by omega) (by omega)]
      refine ⟨fun z => ?_, fun z => s_bitCount (by omega) ?_⟩
      · have e : g w = 0 := by rw [hg]; unfold oddG; rw [if_pos z]
        have := hm' M4 i4 c34
        rw [e] at this; exact this
      · have e : g w = (n - 1) ^ (6 - pcN w) := by rw [hg]; unfold oddG; rw [if_neg z]
        have e2 : fb_ct (fun i => bt (nI w) i) 24 = pcN w := by
          have : (fun i => bt (nI w) i) = (fun i => w.testBit i) := funext fun i => bt_nI (by omega)
          rw [this, pcN_24 w hw]; rfl
        rw [e2, show nI n - (1 : Int32) = nI (n - 1) from z_sub (b := 1) (by omega), show (6 : Int32) - nI (pcN w) = nI (6 - pcN w) from z_sub (a := 6) hp]
        refine c_power (by omega) (by omega) ?_
        rw [lN_add, ← e]
        exact hm' M4 i4 c34
  have i0 : (0 : Int32).toInt = 0 := rfl
  have i2 : (2 : Int32).toInt = 2 := rfl
  have i10 : (10 : Int32).toInt = 10 := rfl
  unfold wX3_damage wX3_damage_9 wX3_damage_33
  refine ⟨fun y1 => ?_, fun y1 => ⟨fun y2 => ⟨fun y3 => ?_, fun y3 => ⟨fun y4 => ?_, fun y4 => ?_⟩⟩, fun y2 => ?_⟩⟩
  · unfold wX4_damage wX4_damage_9
    refine k_ref (n := 4) (by omega) ?_
    exact ⟨fun _ => fin_refL (by omega) h0, fun q => absurd y1 q⟩
  · unfold wX4_damage wX4_damage_28
    refine k_ref (n := 6) (by omega) ?_
    exact ⟨fun q => absurd q y1, fun _ => ⟨fun _ => ⟨fun _ => fin_refL (by omega) h0, fun q => absurd y3 q⟩, fun q => absurd y2 q⟩⟩
  · have l1 : (0 : Int32) ≤ a := Int32.not_lt.mp y1
    have l2 : a ≤ nI 10 := Int32.not_lt.mp y3
    have l3 : (0 : Int32) ≤ t := by
      rw [Int32.le_iff_toInt_le] at y2 ⊢; omega
    obtain ⟨v, hv, rfl⟩ := nn_of (N := 10) (by omega) l1 l2
    obtain ⟨n, hn, rfl⟩ := nn_of (N := 20) (by omega) l3 y4
    have hn2 : 2 ≤ n := by
      rw [Int32.le_iff_toInt_le, nI_toInt (by omega)] at y2; omega
    refine ⟨fun q => go v n hv hn2 hn (Or.inl q) y1 y2 y3 y4, fun q => ⟨fun q2 => go v n hv hn2 hn (Or.inr q2) y1 y2 y3 y4, fun q2 => ?_⟩⟩
    unfold wX4_damage
    refine k_ref (n := 2) (by omega) ?_
    exact ⟨fun w => absurd w y1, fun _ => ⟨fun _ => ⟨fun w => absurd w y3, fun _ => ⟨fun _ => t_inA (n := 1) (by omega) (fun w => absurd ((two01 b).mp w) (fun w => w.elim q q2)) (fun _ => fin_refL (by omega) h0), fun w => absurd y4 w⟩⟩, fun w => absurd y2 w⟩⟩
  · unfold wX4_damage wX4_damage_28
    refine k_ref (n := 6) (by omega) ?_
    exact ⟨fun q => absurd q y1, fun _ => ⟨fun _ => ⟨fun q => absurd q y3, fun _ => ⟨fun q => absurd q y4, fun _ => fin_refL (by omega) h0⟩⟩, fun q => absurd y2 q⟩⟩
  · unfold wX4_damage wX4_damage_9
    refine k_ref (n := 4) (by omega) ?_
    exact ⟨fun q => absurd q y1, fun _ => ⟨fun q => absurd q y2, fun _ => fin_refL (by omega) h0⟩⟩
end KA
