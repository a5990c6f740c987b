/-! more calls that need no check -/
section K2
variable {M : xM} {A : Nat → Nat}
theorem t_slotsOf {i : Nat} {b : Int32} {Q : Int32 → xM → Prop} (hS : SV M A) (hO : aOK A) (hi : i < 10) (hq : Q (nI (fb_ct (fun s => aFull A (6 * i + s)) 6)) M) : ∃ n, lX4_inode_127 (nI i) b Q n M 0 0 := by
  have h1 := hS.2.2.2.2.1
  refine z_loop (P := fun n j => lX4_inode_127 (nI i) b Q n M (nI (fb_ct (fun s => aFull A (6 * i + s)) j)) (nI j)) 6 (fun n => ?_) (fun n j hj hn => ?_)
  · unfold lX4_inode_127
    simp (disch := omega) only [zl 6, z_le, Nat.le_refl, true_implies, not_true, false_implies, and_true]
    exact hq
  · have h2 := hO.2.2.2.2.1 (6 * i + j) (by omega)
    have v := h1 (6 * i + j) (by omega)
    have g : 60 + (6 * i + j) < 147 := by omega
    have hn' : lX4_inode_127 (nI i) b Q n M (nI (fb_ct (fun s => aFull A (6 * i + s)) j + (if aFull A (6 * i + j) = true then 1 else 0))) (nI (j + 1)) := hn
    unfold lX4_inode_127 wX4_inode_159
    simp (disch := omega) only [zl, z_le, z_mul, z_add, Nat.add_assoc, z_in, z_cl, v, eM_n1, g, true_and]
    refine ⟨fun z => absurd z (by omega), fun _ => ⟨fun z => ?_, fun z => ?_⟩⟩
    · rw [if_pos (by unfold aFull; simp [z])] at hn'; exact hn'
    · rw [if_neg (by unfold aFull; simp [z])] at hn'; exact hn'
theorem k_inode {a b : Int32} (h : Inv M) : wX3_inode M a b (fun r M1 => wX4_inode M1 a b (fun r2 M2 => r = r2 ∧ Inv M2)) := by
  have h0 := h
  obtain ⟨hR, A, rf, v1, v2, v3, v4, v5, v6⟩ := h
  have g5 : vp_in 145 147 := (z_in (a := 145) (by omega) (by omega)).mpr (by omega)
  have t5 : (145 : Int32).toNatClampNeg = 145 := rfl
  unfold wX3_inode
  refine k_outA (N := 10) (by omega) (fun ha => ?_) (fun ha => ?_)
  · obtain ⟨i, hi, rfl⟩ := vp_in_of ha (by omega)
    have va : M 2 i = nI (A i) := v1.1 i hi
    have vb : M 3 i = nI (A (10 + i)) := v1.2.1 i hi
    have vc : M 4 i = nI (A (20 + i)) := v1.2.2.1 i hi
    have vd : M 1 7 = nI (A 145) := v1.2.2.2.2.2.2.2
    have wa := v5.1 i hi
    have wb := v5.2.1 i hi
    have wc := v5.2.2.1 i hi
    have wd := v5.2.2.2.2.2.2.2
    have ba := v2.1 i hi
    have bh := xhold_at _ ba
    have bl := xlist_at _ ba
    have g : i < 147 := by omega
    have g1 : 10 + i < 147 := by omega
    have g2 : 20 + i < 147 := by omega
    rw [z_cl (by omega), z_in (by omega) (by omega), va, vb, vc, vd, z_cl (by omega), z_in (by omega) (by omega), bh.1, bl.1]
    have ref : ∀ r : Int32, (((b = 0) → r = nI (A i)) ∧ ((b = 1) → r = nI (A (10 + i))) ∧ ((b = 2) → r = nI (A (20 + i))) ∧ ((b = 3) → r = ((nI (A 145) >>> (nI i &&& 31)) &&& 1)) ∧ ((b = 4) → r = nI (aHolds (A i))) ∧ ((b = 5) → r = nI (aLists (A i))) ∧ ((b = 6) → r = nI (fb_ct (fun s => aFull A (6 * i + s)) 6))) → (b = 0 ∨ b = 1 ∨ b = 2 ∨ b = 3 ∨ b = 4 ∨ b = 5 ∨ b = 6) → wX4_inode M (nI i) b (fun r2 M2 => r = r2 ∧ Inv M2) := by
      intro r ⟨q0, q1, q2, q3, q4, q5, q6⟩ hb
      unfold wX4_inode
      refine t_isInodeA (fun _ => ?_) (fun q => absurd ha q)
      rw [show (10 : Int32) + nI i = nI (10 + i) from z_add 10 i, show (20 : Int32) + nI i = nI (20 + i) from z_add 20 i, show (0 : Int32) + nI i = nI i by rw [show (0 : Int32) = nI 0 from rfl, z_add, Nat.zero_add], z_cl (by omega), z_cl (by omega), z_cl (by omega), z_in (by omega) (by omega), z_in (by omega) (by omega), z_in (by omega) (by omega), wa, wb, wc, t5, wd]
      refine ⟨fun z => ⟨g, q0 z, h0⟩, fun z0 => ⟨fun z => ⟨g1, q1 z, h0⟩, fun z1 => ⟨fun z => ⟨g2, q2 z, h0⟩, fun z2 => ⟨fun z => ⟨g5, q3 z, h0⟩, fun z3 => ⟨fun z => ⟨g, t_holds ba ⟨q4 z, h0⟩⟩, fun z4 => ⟨fun z => ⟨g, t_lists ba ⟨q5 z, h0⟩⟩, fun z5 => ⟨fun z => t_slotsOf v5 v2 hi ⟨q6 z, h0⟩, fun z6 => ?_⟩⟩⟩⟩⟩⟩⟩
      rcases hb with q | q | q | q | q | q | q
      · exact absurd q z0
      · exact absurd q z1
      · exact absurd q z2
      · exact absurd q z3
      · exact absurd q z4
      · exact absurd q z5
      · exact absurd q z6
    have no : ∀ x y : Int32, ¬ x = y → b = x → b = y → False := fun x y q e1 e2 => q (e1.symm.trans e2)
    refine ⟨fun z => ⟨hi, ref _ ⟨fun _ => rfl, fun q => (no 0 1 (by decide) z q).elim, fun q => (no 0 2 (by decide) z q).elim, fun q => (no 0 3 (by decide) z q).elim, fun q => (no 0 4 (by decide) z q).elim, fun q => (no 0 5 (by decide) z q).elim, fun q => (no 0 6 (by decide) z q).elim⟩ (by simp [z])⟩, fun z0 => ⟨fun z => ⟨hi, ref _ ⟨fun q => absurd q z0, fun _ => rfl, fun q => (no 1 2 (by decide) z q).elim, fun q => (no 1 3 (by decide) z q).elim, fun q => (no 1 4 (by decide) z q).elim, fun q => (no 1 5 (by decide) z q).elim, fun q => (no 1 6 (by decide) z q).elim⟩ (by simp [z])⟩, fun z1 => ⟨fun z => ⟨hi, ref _ ⟨fun q => absurd q z0, fun q => absurd q z1, fun _ => rfl, fun q => (no 2 3 (by decide) z q).elim, fun q => (no 2 4 (by decide) z q).elim, fun q => (no 2 5 (by decide) z q).elim, fun q => (no 2 6 (by decide) z q).elim⟩ (by simp [z])⟩, fun z2 => ⟨fun z => ref _ ⟨fun q => absurd q z0, fun q => absurd q z1, fun q => absurd q z2, fun _ => rfl, fun q => (no 3 4 (by decide) z q).elim, fun q => (no 3 5 (by decide) z q).elim, fun q => (no 3 6 (by decide) z q).elim⟩ (by simp [z]), fun z3 => ⟨fun z => ⟨hi, ba, ref _ ⟨fun q => absurd q z0, fun q => absurd q z1, fun q => absurd q z2, fun q => absurd q z3, fun _ => rfl, fun q => (no 4 5 (by decide) z q).elim, fun q => (no 4 6 (by decide) z q).elim⟩ (by simp [z])⟩, fun z4 => ⟨fun z => ⟨hi, ba, ref _ ⟨fun q => absurd q z0, fun q => absurd q z1, fun q => absurd q z2, fun q => absurd q z3, fun q => absurd q z4, fun _ => rfl, fun q => (no 5 6 (by decide) z q).elim⟩ (by simp [z])⟩, fun z5 => ⟨fun z => r_entriesIn (v := 1) v1 v2 hi (ref _ ⟨fun q => absurd q z0, fun q => absurd q z1, fun q => absurd q z2, fun q => absurd q z3, fun q => absurd q z4, fun q => absurd q z5, fun _ => rfl⟩ (by simp [z])), fun z6 => ?_⟩⟩⟩⟩⟩⟩⟩
    unfold wX4_inode
    refine k_ref (n := 2) (by omega) ?_
    exact t_isInodeA (fun _ => ⟨fun q => absurd q z0, fun _ => ⟨fun q => absurd q z1, fun _ => ⟨fun q => absurd q z2, fun _ => ⟨fun q => absurd q z3, fun _ => ⟨fun q => absurd q z4, fun _ => ⟨fun q => absurd q z5, fun _ => ⟨fun q => absurd q z6, fun _ => fin_ref (by omega) h0⟩⟩⟩⟩⟩⟩⟩) (fun q => absurd ha q)
  · unfold wX4_inode
    refine k_ref (n := 1) (by omega) ?_
    exact t_isInodeA (fun q => absurd q ha) (fun _ => fin_ref (by omega) h0)
theorem k_block {a b : Int32} (h : Inv M) : wX3_block M a b (fun r M1 => wX4_block M1 a b (fun r2 M2 => r = r2 ∧ Inv M2)) := by
  have h0 := h
  obtain ⟨hR, A, rf, v1, v2, v3, v4, v5, v6⟩ := h
  have g4 : vp_in 144 147 := (z_in (a := 144) (by omega) (by omega)).mpr (by omega)
  have t4 : (144 : Int32).toNatClampNeg = 144 := rfl
  have i3 : ∀ x : Int32, vp_in x 3 ↔ x = 0 ∨ x = 1 ∨ x = 2 := fun x => by
    constructor
    · intro q
      obtain ⟨j, hj, rfl⟩ := vp_in_of q (by omega)
      rcases (show j = 0 ∨ j = 1 ∨ j = 2 by omega) with rfl | rfl | rfl
      · exact Or.inl rfl
      · exact Or.inr (Or.inl rfl)
      · exact Or.inr (Or.inr rfl)
    · rintro (rfl | rfl | rfl)
      · exact (z_in (a := 0) (by omega) (by omega)).mpr (by omega)
      · exact (z_in (a := 1) (by omega) (by omega)).mpr (by omega)
      · exact (z_in (a := 2) (by omega) (by omega)).mpr (by omega)
  unfold wX3_block
  refine k_outA (N := 24) (by omega) (fun ha => ?_) (fun ha => ?_)
  · obtain ⟨i, hi, rfl⟩ := vp_in_of ha (by omega)
    have va : M 7 i = nI (A (120 + i)) := v1.2.2.2.2.2.1 i hi
    have vb : M 1 6 = nI (A 144) := v1.2.2.2.2.2.2.1
    have wa := v5.2.2.2.2.2.1 i hi
    have wb := v5.2.2.2.2.2.2.1
    have g : 120 + i < 147 := by omega
    rw [z_cl (by omega), z_in (by omega) (by omega), va, vb]
    have ref : ∀ r : Int32, (((b = 0) → r = nI (A (120 + i))) ∧ ((b = 1) → r = ((nI (A 144) >>> (nI i &&& 31)) &&& 1)) ∧ ((b = 2) → r = nI (fb_ct (aTo A i) 30))) → (b = 0 ∨ b = 1 ∨ b = 2) → wX4_block M (nI i) b (fun r2 M2 => r = r2 ∧ Inv M2) := by
      intro r ⟨q0, q1, q2⟩ hb
      unfold wX4_block wX4_block_70
      refine t_isBlockA (fun _ => t_inA (n := 2) (by omega) (fun _ => ?_) (fun q => absurd ((i3 b).mpr hb) q)) (fun q => absurd ha q)
      rw [show (120 : Int32) + nI i = nI (120 + i) from z_add 120 i, z_cl (by omega), z_in (by omega) (by omega), wa, t4, wb]
      refine ⟨fun z0 => ⟨fun z1 => t_pointersTo v5 v2 (by omega) ⟨q2 ?_, h0⟩, fun z => ⟨g4, q1 z, h0⟩⟩, fun z => ⟨g, q0 z, h0⟩⟩
      rcases hb with q | q | q
      · exact absurd q z0
      · exact absurd q z1
      · exact q
    have no : ∀ x y : Int32, ¬ x = y → b = x → b = y → False := fun x y q e1 e2 => q (e1.symm.trans e2)
    refine ⟨fun z => ⟨hi, ref _ ⟨fun _ => rfl, fun q => (no 0 1 (by decide) z q).elim, fun q => (no 0 2 (by decide) z q).elim⟩ (by simp [z])⟩, fun z0 => ⟨fun z => ref _ ⟨fun q => absurd q z0, fun _ => rfl, fun q => (no 1 2 (by decide) z q).elim⟩ (by simp [z]), fun z1 => ⟨fun z => r_pointersTo (v := 1) xVol_at1 v1 v2 (by omega) (ref _ ⟨fun q => absurd q z0, fun q => absurd q z1, fun _ => rfl⟩ (by simp [z])), fun z2 => ?_⟩⟩⟩
    unfold wX4_block
    refine k_ref (n := 2) (by omega) ?_
    exact t_isBlockA (fun _ => t_inA (n := 2) (by omega) (fun q => absurd ((i3 b).mp q) (fun w => by
      rcases w with w | w | w
      · exact z0 w
      · exact z1 w
      · exact z2 w)) (fun _ => fin_ref (by omega) h0)) (fun q => absurd ha q)
  · unfold wX4_block
    refine k_ref (n := 1) (by omega) ?_
    exact t_isBlockA (fun q => absurd q ha) (fun _ => fin_ref (by omega) h0)
theorem t_inR {r lo hi : Nat} {Q : Int32 → xM → Prop} (hr : r < 1000) (hl : lo < 1000) (hh : hi < 1000) (h1 : lo ≤ r ∧ r ≤ hi → Q 1 M) (h0 : ¬ (lo ≤ r ∧ r ≤ hi) → Q 0 M) : wX4_in M (nI r) (nI lo) (nI hi) Q := by
  unfold wX4_in wX4_in_14 wX4_in_15
  simp (disch := omega) only [z_lt]
  refine ⟨fun z => ⟨rfl, h0 fun q => by omega⟩, fun z => ⟨fun z2 => ⟨rfl, h0 fun q => by omega⟩, fun z2 => ⟨rfl, h1 (by omega)⟩⟩⟩
theorem t_inX {x : Int32} {lo hi : Nat} {Q : Int32 → xM → Prop} (hl : lo < 1000) (hh : hi < 1000) (h : ¬ vp_in x (hi + 1)) (h0 : Q 0 M) : wX4_in M x (nI lo) (nI hi) Q := by
  have h2 := fun z => h (vp_in_iff.mpr z)
  unfold wX4_in wX4_in_14 wX4_in_15
  refine ⟨fun z => ⟨rfl, h0⟩, fun z => ⟨fun z2 => ⟨rfl, h0⟩, fun z2 => ?_⟩⟩
  rw [Int32.lt_iff_toInt_lt, nI_toInt (by omega)] at z z2
  exact absurd ⟨by omega, by omega⟩ h2
def rFlip (rf : Nat → Bool) (r : Nat) : Nat → Bool := fun k => rf k ^^ decide (k = r)
theorem k_refuses {a : Int32} (h : Inv M) : wX3_refuses M a (fun r M1 => wX4_refuses M1 a (fun r2 M2 => r = r2 ∧ Inv M2)) := by
  have h0 := h
  obtain ⟨hR, A, rf, v1, v2, v3, v4, v5, v6⟩ := h
  have g6 : vp_in 146 147 := (z_in (a := 146) (by omega) (by omega)).mpr (by omega)
  have t6 : (146 : Int32).toNatClampNeg = 146 := rfl
  unfold wX3_refuses wX3_refuses_18
  refine k_outB (N := 17) (by omega) (fun ha => ?_) (fun ha => ?_)
  · obtain ⟨i, hi, rfl⟩ := vp_in_of ha (by omega)
    have key : ∀ r, r < 17 → (((118800 : Int32) >>> (nI r &&& 31)) &&& 1 = 0 ↔ ¬ (r = 4 ∨ r = 12 ∨ r = 14 ∨ r = 15 ∨ r = 16)) := by decide
    rw [key i hi]
    refine ⟨fun z => ?_, fun z => ?_⟩
    · have z' : i = 4 ∨ i = 12 ∨ i = 14 ∨ i = 15 ∨ i = 16 := Classical.byContradiction z
      have hx : bs rf 17 ^^^ ((1 : Int32) <<< (nI i &&& 31)) = bs (rFlip rf i) 17 := by rw [bs_one (n := 17) (by omega) hi, bs_xor _ _ (by omega)]; rfl
      have hr2 : rfOK (rFlip rf i) := fun r hr => by
        unfold rFlip at hr
        by_cases e : r = i
        · rw [e]; exact z'
        · simp [e] at hr; exact v3 r hr
      rw [v4, hx]
      have ec : xup M 0 11 (bs (rFlip rf i) 17) 0 11 = bs (rFlip rf i) 17 := by rw [xup_at, upd, if_pos rfl]
      rw [ec]
      have e51 : xup M 0 11 (bs (rFlip rf i) 17) 51 = M 51 := xup_n (by omega)
      have fin : wX4_refuses_29 (nI i) (fun r2 M2 => ((bs (rFlip rf i) 17 >>> (nI i &&& 31)) &&& 1) = r2 ∧ Inv M2) (xup M 0 11 (bs (rFlip rf i) 17)) := by
        unfold wX4_refuses_29
        rw [t6, e51, v6, hx]
        have er : xup (xup M 0 11 (bs (rFlip rf i) 17)) 51 146 (bs (rFlip rf i) 17) 51 146 = bs (rFlip rf i) 17 := by rw [xup_at, upd, if_pos rfl]
        rw [er]
        refine ⟨g6, rfl, inv_fin hR (cOff_0 (Or.inl rfl)) dOff_s (CV_same v1 fun d hd => xup_n (by omega)) v2 hr2 ec ?_ er⟩
        have s := SV_same v5 e51
        exact SVf_same s fun k hk => by rw [xup_at, upd, if_neg (by omega)]
      unfold wX4_refuses
      simp (disch := omega) only [zl 4, zl 12, z_eq]
      refine ⟨fun _ => fin, fun q4 => ⟨fun _ => fin, fun q12 => t_inR (lo := 14) (hi := 16) (by omega) (by omega) (by omega) (fun q => ⟨fun _ => fin, fun w => absurd w (by decide)⟩) (fun q => absurd (by omega) q)⟩⟩
    · unfold wX4_refuses
      refine k_ref (n := 2) (by omega) ?_
      simp (disch := omega) only [zl 4, zl 12, z_eq]
      refine ⟨fun q => absurd (Or.inl q) z, fun q4 => ⟨fun q => absurd (Or.inr (Or.inl q)) z, fun q12 => t_inR (lo := 14) (hi := 16) (by omega) (by omega) (by omega) (fun q => absurd (by omega) z) (fun q => ⟨fun w => absurd rfl w, fun _ => fin_ref (by omega) h0⟩)⟩⟩
  · unfold wX4_refuses
    refine k_ref (n := 2) (by omega) ?_
    refine ⟨fun q => absurd (by rw [q]; exact (z_in (a := 4) (by omega) (by omega)).mpr (by omega)) ha, fun q4 => ⟨fun q => absurd (by rw [q]; exact (z_in (a := 12) (by omega) (by omega)).mpr (by omega)) ha, fun q12 => t_inX (lo := 14) (hi := 16) (by omega) (by omega) ha ⟨fun w => absurd rfl w, fun _ => fin_ref (by omega) h0⟩⟩⟩
theorem k_letter {a : Int32} (h : Inv M) : wX3_letter M a (fun r M1 => wX4_letter M1 a (fun r2 M2 => r = r2 ∧ Inv M2)) := by
  have h0 := h
  obtain ⟨⟨hR1, hR2, ⟨nl, l1, l2, l3, l4⟩, hR4⟩, A, rf, v1, v2, v3, v4, v5, v6⟩ := h
  unfold wX3_letter wX3_letter_30
  refine ⟨fun z => ⟨fun z2 => ?_, fun z2 => ?_⟩, fun z => ?_⟩
  · unfold wX4_letter wX4_letter_27
    refine k_ref (n := 6) (by omega) ?_
    exact ⟨fun _ => ⟨fun _ => fin_ref (by omega) h0, fun q => absurd z2 q⟩, fun q => absurd z q⟩
  · have z3 : a ≤ nI 255 := by
      rw [Int32.lt_iff_toInt_lt] at z2
      rw [Int32.le_iff_toInt_le]
      have : (255 : Int32).toInt = (nI 255).toInt := rfl
      omega
    rw [l2]
    simp (disch := omega) only [zl 96, z_lt]
    refine ⟨fun z4 => ?_, fun z4 => ?_⟩
    · obtain ⟨t, ht, rfl⟩ := nn_of (N := 255) (by omega) z z3
      unfold wX1_append wX1_append_29
      rw [l2]
      have e47 : xup M 47 nl (nI t) 46 = M 46 := xup_n (by omega)
      simp (disch := omega) only [zl 96, z_le, z_in, z_cl, e47, l2, nI_1]
      refine ⟨fun q => absurd q (by omega), fun _ => ⟨by omega, ?_⟩⟩
      have ea : xup (xup M 47 nl (nI t)) 46 1 (nI (nl + 1)) 46 1 = nI (nl + 1) := by rw [xup_at, upd, if_pos rfl]
      rw [ea]
      obtain ⟨M1, hM1⟩ : ∃ M1, M1 = xup (xup M 47 nl (nI t)) 46 1 (nI (nl + 1)) := ⟨_, rfl⟩
      rw [← hM1] at ea ⊢
      have o1 : ∀ p, p ≠ 46 → p ≠ 47 → M1 p = M p := fun p a b => by rw [hM1, xup_n a, xup_n b]
      have o47 : M1 47 = upd (M 47) nl (nI t) := by rw [hM1, xup_n (by omega), xup_at]
      have e50 : M1 50 7 = nI nl := by rw [o1 50 (by omega) (by omega)]; exact l3
      unfold wX4_letter wX4_letter_27
      refine ⟨fun _ => ⟨fun q => absurd q z2, fun _ => ?_⟩, fun q => absurd z q⟩
      rw [e50]
      have e55 : xup M1 55 nl (nI t) 50 = M1 50 := xup_n (by omega)
      simp (disch := omega) only [zl 96, z_eq, z_in, z_cl, e55, e50, nI_1]
      refine ⟨fun _ => ⟨by omega, ?_, ?_⟩, fun q => absurd q (by omega)⟩
      · rw [xup_at, upd, if_pos rfl]
      · obtain ⟨M2, hM2⟩ : ∃ M2, M2 = xup (xup M1 55 nl (nI t)) 50 7 (nI (nl + 1)) := ⟨_, rfl⟩
        rw [← hM2]
        have o2 : ∀ p, p ≠ 50 → p ≠ 55 → M2 p = M1 p := fun p a b => by rw [hM2, xup_n a, xup_n b]
        have o50 : ∀ j, j ≠ 7 → M2 50 j = M 50 j := fun j hj => by rw [hM2, xup_at, upd, if_neg hj, e55, o1 50 (by omega) (by omega)]
        have oo : ∀ p, p ≠ 46 → p ≠ 47 → p ≠ 50 → p ≠ 55 → M2 p = M p := fun p a b c d => by rw [o2 p c d, o1 p a b]
        refine ⟨⟨IRt_eq hR1 (fun p hp => oo p (by omega) (by omega) (by omega) (by omega)) ?_ ?_ (o50 4 (by omega)), IRr_eq hR2 ?_ (o50 16 (by omega)) (oo 48 (by omega) (by omega) (by omega) (by omega)) (oo 59 (by omega) (by omega) (by omega) (by omega)), ⟨nl + 1, by omega, ?_, ?_, fun j hj => ?_⟩, IRc_eq hR4 (oo 49 (by omega) (by omega) (by omega) (by omega)) (oo 54 (by omega) (by omega) (by omega) (by omega))⟩, A, rf, CV_same v1 fun d hd => oo _ (by omega) (by omega) (by omega) (by omega), v2, v3, ?_, SV_same v5 (oo 51 (by omega) (by omega) (by omega) (by omega)), ?_⟩
        · rw [oo 0 (by omega) (by omega) (by omega) (by omega)]
        · rw [oo 0 (by omega) (by omega) (by omega) (by omega)]
        · rw [oo 0 (by omega) (by omega) (by omega) (by omega)]
        · rw [o2 46 (by omega) (by omega)]; exact ea
        · rw [hM2, xup_at, upd, if_pos rfl]
        · rw [o2 47 (by omega) (by omega), o47, hM2, xup_n (by omega), xup_at, o1 55 (by omega) (by omega)]
          unfold upd
          by_cases e : j = nl
          · rw [if_pos e, if_pos e]; exact ⟨t, ht, rfl, rfl⟩
          · rw [if_neg e, if_neg e]; exact l4 j (by omega)
        · rw [oo 0 (by omega) (by omega) (by omega) (by omega)]; exact v4
        · rw [oo 51 (by omega) (by omega) (by omega) (by omega)]; exact v6
    · have e50 : refd M 6 50 7 = nI 96 := by
        rw [show refd M 6 50 = M 50 from xup_n (by omega), l3, show nl = 96 by omega]
      unfold wX4_letter wX4_letter_27
      refine k_ref (n := 6) (by omega) ?_
      exact ⟨fun _ => ⟨fun q => absurd q z2, fun _ => ⟨fun q => absurd e50 q, fun _ => fin_ref (by omega) h0⟩⟩, fun q => absurd z q⟩
  · unfold wX4_letter wX4_letter_27
    refine k_ref (n := 4) (by omega) ?_
    exact ⟨fun q => absurd q z, fun _ => fin_ref (by omega) h0⟩
theorem k_row {a : Int32} (h : Inv M) : wX3_row M a (fun r M1 => wX4_row M1 a (fun r2 M2 => r = r2 ∧ Inv M2)) := by
  have h0 := h
  obtain ⟨⟨hR1, ⟨nl, l1, l2, l3, l4⟩, hR3, hR4⟩, A, rf, v1, v2, v3, v4, v5, v6⟩ := h
  unfold wX3_row wX3_row_26
  refine ⟨fun z => ⟨fun z2 => ?_, fun z2 => ?_⟩, fun z => ?_⟩
  · unfold wX4_row wX4_row_26
    refine k_ref (n := 6) (by omega) ?_
    exact ⟨fun _ => ⟨fun _ => fin_ref (by omega) h0, fun q => absurd z2 q⟩, fun q => absurd z q⟩
  · have z3 : a ≤ nI 99 := by
      rw [Int32.lt_iff_toInt_lt] at z2
      rw [Int32.le_iff_toInt_le]
      have : (99 : Int32).toInt = (nI 99).toInt := rfl
      omega
    rw [l2]
    simp (disch := omega) only [zl 32, z_lt]
    refine ⟨fun z4 => ?_, fun z4 => ?_⟩
    · obtain ⟨t, ht, rfl⟩ := nn_of (N := 99) (by omega) z z3
      have e47 : xup M 48 nl (nI t) 0 = M 0 := xup_n (by omega)
      simp (disch := omega) only [z_in, z_cl, e47, l2, nI_1]
      refine ⟨by omega, ?_⟩
      have ea : xup (xup M 48 nl (nI t)) 0 9 (nI (nl + 1)) 0 9 = nI (nl + 1) := by rw [xup_at, upd, if_pos rfl]
      rw [ea]
      obtain ⟨M1, hM1⟩ : ∃ M1, M1 = xup (xup M 48 nl (nI t)) 0 9 (nI (nl + 1)) := ⟨_, rfl⟩
      rw [← hM1] at ea ⊢
      have o1 : ∀ p, p ≠ 0 → p ≠ 48 → M1 p = M p := fun p a b => by rw [hM1, xup_n a, xup_n b]
      have o0 : ∀ j, j ≠ 9 → M1 0 j = M 0 j := fun j hj => by rw [hM1, xup_at, upd, if_neg hj, e47]
      have o47 : M1 48 = upd (M 48) nl (nI t) := by rw [hM1, xup_n (by omega), xup_at]
      have e50 : M1 50 16 = nI nl := by rw [o1 50 (by omega) (by omega)]; exact l3
      unfold wX4_row wX4_row_26
      refine ⟨fun _ => ⟨fun q => absurd q z2, fun _ => ?_⟩, fun q => absurd z q⟩
      rw [e50]
      have e55 : xup M1 59 nl (nI t) 50 = M1 50 := xup_n (by omega)
      simp (disch := omega) only [zl 32, z_eq, z_in, z_cl, e55, e50, nI_1]
      refine ⟨fun _ => ⟨by omega, ?_, ?_⟩, fun q => absurd q (by omega)⟩
      · rw [xup_at, upd, if_pos rfl]
      · obtain ⟨M2, hM2⟩ : ∃ M2, M2 = xup (xup M1 59 nl (nI t)) 50 16 (nI (nl + 1)) := ⟨_, rfl⟩
        rw [← hM2]
        have o2 : ∀ p, p ≠ 50 → p ≠ 59 → M2 p = M1 p := fun p a b => by rw [hM2, xup_n a, xup_n b]
        have o50 : ∀ j, j ≠ 16 → M2 50 j = M 50 j := fun j hj => by rw [hM2, xup_at, upd, if_neg hj, e55, o1 50 (by omega) (by omega)]
        have oo : ∀ p, p ≠ 0 → p ≠ 48 → p ≠ 50 → p ≠ 59 → M2 p = M p := fun p a b c d => by rw [o2 p c d, o1 p a b]
        have oz : ∀ j, j ≠ 9 → M2 0 j = M 0 j := fun j hj => by rw [o2 0 (by omega) (by omega)]; exact o0 j hj
        refine ⟨⟨IRt_eq hR1 (fun p hp => oo p (by omega) (by omega) (by omega) (by omega)) (oz 3 (by omega)) (oz 4 (by omega)) (o50 4 (by omega)), ⟨nl + 1, by omega, ?_, ?_, fun j hj => ?_⟩, IRl_eq hR3 ?_ (o50 7 (by omega)) (oo 47 (by omega) (by omega) (by omega) (by omega)) (oo 55 (by omega) (by omega) (by omega) (by omega)), IRc_eq hR4 (oo 49 (by omega) (by omega) (by omega) (by omega)) (oo 54 (by omega) (by omega) (by omega) (by omega))⟩, A, rf, CV_same v1 fun d hd => oo _ (by omega) (by omega) (by omega) (by omega), v2, v3, (oz 11 (by omega)).trans v4, SV_same v5 (oo 51 (by omega) (by omega) (by omega) (by omega)), ?_⟩
        · rw [o2 0 (by omega) (by omega)]; exact ea
        · rw [hM2, xup_at, upd, if_pos rfl]
        · rw [o2 48 (by omega) (by omega), o47, hM2, xup_n (by omega), xup_at, o1 59 (by omega) (by omega)]
          unfold upd
          by_cases e : j = nl
          · rw [if_pos e, if_pos e]; exact ⟨t, ht, rfl, rfl⟩
          · rw [if_neg e, if_neg e]; exact l4 j (by omega)
        · rw [oo 46 (by omega) (by omega) (by omega) (by omega)]
        · rw [oo 51 (by omega) (by omega) (by omega) (by omega)]; exact v6
    · have e50 : refd M 6 50 16 = nI 32 := by
        rw [show refd M 6 50 = M 50 from xup_n (by omega), l3, show nl = 32 by omega]
      unfold wX4_row wX4_row_26
      refine k_ref (n := 6) (by omega) ?_
      exact ⟨fun _ => ⟨fun q => absurd q z2, fun _ => ⟨fun q => absurd e50 q, fun _ => fin_ref (by omega) h0⟩⟩, fun q => absurd z q⟩
  · unfold wX4_row wX4_row_26
    refine k_ref (n := 4) (by omega) ?_
    exact ⟨fun q => absurd q z, fun _ => fin_ref (by omega) h0⟩
/-- the row has none any more, on both sides -/
theorem inv_none {M1 M2 : xM} (h : Inv M1) (e : M2 = xup (xup M1 0 9 0) 50 16 0) : Inv M2 := by
  obtain ⟨⟨hR1, hR2, hR3, hR4⟩, A, rf, v1, v2, v3, v4, v5, v6⟩ := h
  subst e
  have oo : ∀ p, p ≠ 0 → p ≠ 50 → xup (xup M1 0 9 0) 50 16 0 p = M1 p := fun p a b => by rw [xup_n b, xup_n a]
  have oz : ∀ j, j ≠ 9 → xup (xup M1 0 9 0) 50 16 0 0 j = M1 0 j := fun j hj => by rw [xup_n (by omega), xup_at, upd, if_neg hj]
  have o5 : ∀ j, j ≠ 16 → xup (xup M1 0 9 0) 50 16 0 50 j = M1 50 j := fun j hj => by rw [xup_at, upd, if_neg hj, xup_n (by omega)]
  refine ⟨⟨IRt_eq hR1 (fun p hp => oo p (by omega) (by omega)) (oz 3 (by omega)) (oz 4 (by omega)) (o5 4 (by omega)), ⟨0, by omega, ?_, ?_, fun j hj => absurd hj (Nat.not_lt_zero j)⟩, IRl_eq hR3 ?_ (o5 7 (by omega)) (oo 47 (by omega) (by omega)) (oo 55 (by omega) (by omega)), IRc_eq hR4 (oo 49 (by omega) (by omega)) (oo 54 (by omega) (by omega))⟩, A, rf, CV_same v1 fun d hd => oo _ (by omega) (by omega), v2, v3, (oz 11 (by omega)).trans v4, SV_same v5 (oo 51 (by omega) (by omega)), ?_⟩
  · rw [xup_n (by omega), xup_at, upd, if_pos rfl]; rfl
  · rw [xup_at, upd, if_pos rfl]; rfl
  · rw [oo 46 (by omega) (by omega)]
  · rw [oo 51 (by omega) (by omega)]; exact v6
theorem k_clear (h : Inv M) : wX3_clear M (fun r M1 => wX4_clear M1 (fun r2 M2 => r = r2 ∧ Inv M2)) := by
  have h0 := h
  obtain ⟨⟨hR1, ⟨nl, l1, l2, l3, l4⟩, hR3, hR4⟩, A, rf, v1, v2, v3, v4, v5, v6⟩ := h
  unfold wX3_clear wX4_clear
  refine ⟨?_, inv_none h0 rfl⟩
  rw [xup_n (by omega), l2, l3]
end K2
