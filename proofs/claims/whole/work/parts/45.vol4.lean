/-! what is written into a volume -/
def aUp (A : Nat → Nat) (q x : Nat) : Nat → Nat := fun k => if k = q then x else A k
def sOff (lo hi : Nat) (M M' : xM) : Prop := ∀ p, ¬ (lo ≤ p ∧ p ≤ hi) → M' p = M p
theorem sOff_rf {lo hi : Nat} {M : xM} : sOff lo hi M M := fun _ _ => rfl
theorem sOff_tr {lo hi : Nat} {M M' M'' : xM} (h : sOff lo hi M M') (h2 : sOff lo hi M' M'') : sOff lo hi M M'' := fun p hp => (h2 p hp).trans (h p hp)
theorem sOff_up {lo hi p k : Nat} {M : xM} {x : Int32} (h : lo ≤ p ∧ p ≤ hi) : sOff lo hi M (xup M p k x) := fun a ha => xup_ne M k x (fun z => ha (z ▸ h))
theorem CV_cong {M : xM} {v : Nat} {A B : Nat → Nat} (h : CV M v A) (e : ∀ q, q < 146 → A q = B q) : CV M v B := by
  obtain ⟨h1, h2, h3, h4, h5, h6, h7, h8⟩ := h
  exact ⟨fun i hi => by rw [h1 i hi, e _ (by omega)], fun i hi => by rw [h2 i hi, e _ (by omega)], fun i hi => by rw [h3 i hi, e _ (by omega)], fun i hi => by rw [h4 i hi, e _ (by omega)], fun i hi => by rw [h5 i hi, e _ (by omega)], fun i hi => by rw [h6 i hi, e _ (by omega)], by rw [h7, e _ (by omega)], by rw [h8, e _ (by omega)]⟩
theorem CV_same {M M' : xM} {v : Nat} {A : Nat → Nat} (h : CV M v A) (e : ∀ d, d < 7 → M' (v + d) = M (v + d)) : CV M' v A := by
  obtain ⟨h1, h2, h3, h4, h5, h6, h7, h8⟩ := h
  have e0 : M' v = M v := e 0 (by omega)
  exact ⟨fun i hi => by rw [e 1 (by omega)]; exact h1 i hi, fun i hi => by rw [e 2 (by omega)]; exact h2 i hi, fun i hi => by rw [e 3 (by omega)]; exact h3 i hi, fun i hi => by rw [e 4 (by omega)]; exact h4 i hi, fun i hi => by rw [e 5 (by omega)]; exact h5 i hi, fun i hi => by rw [e 6 (by omega)]; exact h6 i hi, by rw [e0]; exact h7, by rw [e0]; exact h8⟩
theorem aOK_cong {A B : Nat → Nat} (h : aOK A) (e : ∀ q, q < 146 → A q = B q) : aOK B := by
  obtain ⟨h1, h2, h3, h4, h5, h6, h7, h8⟩ := h
  exact ⟨fun i hi => by rw [← e _ (by omega)]; exact h1 i hi, fun i hi => by rw [← e _ (by omega)]; exact h2 i hi, fun i hi => by rw [← e _ (by omega)]; exact h3 i hi, fun i hi => by rw [← e _ (by omega)]; exact h4 i hi, fun i hi => by rw [← e _ (by omega)]; exact h5 i hi, fun i hi => by rw [← e _ (by omega)]; exact h6 i hi, by rw [← e _ (by omega)]; exact h7, by rw [← e _ (by omega)]; exact h8⟩
section XV
variable {M : xM} {v : Nat} {A : Nat → Nat}
theorem CV_kind {i x : Nat} (hC : CV M v A) (hi : i < 10) : CV (xup M (v + 1) i (nI x)) v (aUp A i x) := by
  refine ⟨?_, ?_, ?_, ?_, ?_, ?_, ?_, ?_⟩
  · intro k hk
    rw [xup_at]
    unfold upd aUp
    by_cases z : k = i
    · subst z
      rw [if_pos rfl, if_pos rfl]
    · rw [if_neg z, if_neg (by omega)]
      exact hC.1 k hk
  · intro k hk
    rw [xup_ne M _ _ (by omega)]
    unfold aUp
    rw [if_neg (by omega)]
    exact hC.2.1 k hk
  · intro k hk
    rw [xup_ne M _ _ (by omega)]
    unfold aUp
    rw [if_neg (by omega)]
    exact hC.2.2.1 k hk
  · intro k hk
    rw [xup_ne M _ _ (by omega)]
    unfold aUp
    rw [if_neg (by omega)]
    exact hC.2.2.2.1 k hk
  · intro k hk
    rw [xup_ne M _ _ (by omega)]
    unfold aUp
    rw [if_neg (by omega)]
    exact hC.2.2.2.2.1 k hk
  · intro k hk
    rw [xup_ne M _ _ (by omega)]
    unfold aUp
    rw [if_neg (by omega)]
    exact hC.2.2.2.2.2.1 k hk
  · rw [xup_ne M _ _ (by omega)]
    unfold aUp
    rw [if_neg (by omega)]
    exact hC.2.2.2.2.2.2.1
  · rw [xup_ne M _ _ (by omega)]
    unfold aUp
    rw [if_neg (by omega)]
    exact hC.2.2.2.2.2.2.2
theorem aOK_kind {i x : Nat} (hO : aOK A) (hi : i < 10) (hx : x < 6) : aOK (aUp A i x) := by
  refine ⟨?_, ?_, ?_, ?_, ?_, ?_, ?_, ?_⟩
  · intro k hk
    have := hO.1 k hk
    unfold aUp
    split <;> omega
  · intro k hk
    have := hO.2.1 k hk
    unfold aUp
    split <;> omega
  · intro k hk
    have := hO.2.2.1 k hk
    unfold aUp
    split <;> omega
  · intro k hk
    have := hO.2.2.2.1 k hk
    unfold aUp
    split <;> omega
  · intro k hk
    have := hO.2.2.2.2.1 k hk
    unfold aUp
    split <;> omega
  · intro k hk
    have := hO.2.2.2.2.2.1 k hk
    unfold aUp
    split <;> omega
  · have := hO.2.2.2.2.2.2.1
    unfold aUp
    rw [if_neg (by omega)]; exact this
  · have := hO.2.2.2.2.2.2.2
    unfold aUp
    rw [if_neg (by omega)]; exact this
theorem CV_link {i x : Nat} (hC : CV M v A) (hi : i < 10) : CV (xup M (v + 2) i (nI x)) v (aUp A (10 + i) x) := by
  refine ⟨?_, ?_, ?_, ?_, ?_, ?_, ?_, ?_⟩
  · intro k hk
    rw [xup_ne M _ _ (by omega)]
    unfold aUp
    rw [if_neg (by omega)]
    exact hC.1 k hk
  · intro k hk
    rw [xup_at]
    unfold upd aUp
    by_cases z : k = i
    · subst z
      rw [if_pos rfl, if_pos rfl]
    · rw [if_neg z, if_neg (by omega)]
      exact hC.2.1 k hk
  · intro k hk
    rw [xup_ne M _ _ (by omega)]
    unfold aUp
    rw [if_neg (by omega)]
    exact hC.2.2.1 k hk
  · intro k hk
    rw [xup_ne M _ _ (by omega)]
    unfold aUp
    rw [if_neg (by omega)]
    exact hC.2.2.2.1 k hk
  · intro k hk
    rw [xup_ne M _ _ (by omega)]
    unfold aUp
    rw [if_neg (by omega)]
    exact hC.2.2.2.2.1 k hk
  · intro k hk
    rw [xup_ne M _ _ (by omega)]
    unfold aUp
    rw [if_neg (by omega)]
    exact hC.2.2.2.2.2.1 k hk
  · rw [xup_ne M _ _ (by omega)]
    unfold aUp
    rw [if_neg (by omega)]
    exact hC.2.2.2.2.2.2.1
  · rw [xup_ne M _ _ (by omega)]
    unfold aUp
    rw [if_neg (by omega)]
    exact hC.2.2.2.2.2.2.2
theorem aOK_link {i x : Nat} (hO : aOK A) (hi : i < 10) (hx : x < 10) : aOK (aUp A (10 + i) x) := by
  refine ⟨?_, ?_, ?_, ?_, ?_, ?_, ?_, ?_⟩
  · intro k hk
    have := hO.1 k hk
    unfold aUp
    split <;> omega
  · intro k hk
    have := hO.2.1 k hk
    unfold aUp
    split <;> omega
  · intro k hk
    have := hO.2.2.1 k hk
    unfold aUp
    split <;> omega
  · intro k hk
    have := hO.2.2.2.1 k hk
    unfold aUp
    split <;> omega
  · intro k hk
    have := hO.2.2.2.2.1 k hk
    unfold aUp
    split <;> omega
  · intro k hk
    have := hO.2.2.2.2.2.1 k hk
    unfold aUp
    split <;> omega
  · have := hO.2.2.2.2.2.2.1
    unfold aUp
    rw [if_neg (by omega)]; exact this
  · have := hO.2.2.2.2.2.2.2
    unfold aUp
    rw [if_neg (by omega)]; exact this
theorem CV_par {i x : Nat} (hC : CV M v A) (hi : i < 10) : CV (xup M (v + 3) i (nI x)) v (aUp A (20 + i) x) := by
  refine ⟨?_, ?_, ?_, ?_, ?_, ?_, ?_, ?_⟩
  · intro k hk
    rw [xup_ne M _ _ (by omega)]
    unfold aUp
    rw [if_neg (by omega)]
    exact hC.1 k hk
  · intro k hk
    rw [xup_ne M _ _ (by omega)]
    unfold aUp
    rw [if_neg (by omega)]
    exact hC.2.1 k hk
  · intro k hk
    rw [xup_at]
    unfold upd aUp
    by_cases z : k = i
    · subst z
      rw [if_pos rfl, if_pos rfl]
    · rw [if_neg z, if_neg (by omega)]
      exact hC.2.2.1 k hk
  · intro k hk
    rw [xup_ne M _ _ (by omega)]
    unfold aUp
    rw [if_neg (by omega)]
    exact hC.2.2.2.1 k hk
  · intro k hk
    rw [xup_ne M _ _ (by omega)]
    unfold aUp
    rw [if_neg (by omega)]
    exact hC.2.2.2.2.1 k hk
  · intro k hk
    rw [xup_ne M _ _ (by omega)]
    unfold aUp
    rw [if_neg (by omega)]
    exact hC.2.2.2.2.2.1 k hk
  · rw [xup_ne M _ _ (by omega)]
    unfold aUp
    rw [if_neg (by omega)]
    exact hC.2.2.2.2.2.2.1
  · rw [xup_ne M _ _ (by omega)]
    unfold aUp
    rw [if_neg (by omega)]
    exact hC.2.2.2.2.2.2.2
theorem aOK_par {i x : Nat} (hO : aOK A) (hi : i < 10) (hx : x < 10) : aOK (aUp A (20 + i) x) := by
  refine ⟨?_, ?_, ?_, ?_, ?_, ?_, ?_, ?_⟩
  · intro k hk
    have := hO.1 k hk
    unfold aUp
    split <;> omega
  · intro k hk
    have := hO.2.1 k hk
    unfold aUp
    split <;> omega
  · intro k hk
    have := hO.2.2.1 k hk
    unfold aUp
    split <;> omega
  · intro k hk
    have := hO.2.2.2.1 k hk
    unfold aUp
    split <;> omega
  · intro k hk
    have := hO.2.2.2.2.1 k hk
    unfold aUp
    split <;> omega
  · intro k hk
    have := hO.2.2.2.2.2.1 k hk
    unfold aUp
    split <;> omega
  · have := hO.2.2.2.2.2.2.1
    unfold aUp
    rw [if_neg (by omega)]; exact this
  · have := hO.2.2.2.2.2.2.2
    unfold aUp
    rw [if_neg (by omega)]; exact this
theorem CV_ptr {i x : Nat} (hC : CV M v A) (hi : i < 30) : CV (xup M (v + 4) i (tC x)) v (aUp A (30 + i) x) := by
  refine ⟨?_, ?_, ?_, ?_, ?_, ?_, ?_, ?_⟩
  · intro k hk
    rw [xup_ne M _ _ (by omega)]
    unfold aUp
    rw [if_neg (by omega)]
    exact hC.1 k hk
  · intro k hk
    rw [xup_ne M _ _ (by omega)]
    unfold aUp
    rw [if_neg (by omega)]
    exact hC.2.1 k hk
  · intro k hk
    rw [xup_ne M _ _ (by omega)]
    unfold aUp
    rw [if_neg (by omega)]
    exact hC.2.2.1 k hk
  · intro k hk
    rw [xup_at]
    unfold upd aUp
    by_cases z : k = i
    · subst z
      rw [if_pos rfl, if_pos rfl]
    · rw [if_neg z, if_neg (by omega)]
      exact hC.2.2.2.1 k hk
  · intro k hk
    rw [xup_ne M _ _ (by omega)]
    unfold aUp
    rw [if_neg (by omega)]
    exact hC.2.2.2.2.1 k hk
  · intro k hk
    rw [xup_ne M _ _ (by omega)]
    unfold aUp
    rw [if_neg (by omega)]
    exact hC.2.2.2.2.2.1 k hk
  · rw [xup_ne M _ _ (by omega)]
    unfold aUp
    rw [if_neg (by omega)]
    exact hC.2.2.2.2.2.2.1
  · rw [xup_ne M _ _ (by omega)]
    unfold aUp
    rw [if_neg (by omega)]
    exact hC.2.2.2.2.2.2.2
theorem aOK_ptr {i x : Nat} (hO : aOK A) (hi : i < 30) (hx : x ≤ 99) : aOK (aUp A (30 + i) x) := by
  refine ⟨?_, ?_, ?_, ?_, ?_, ?_, ?_, ?_⟩
  · intro k hk
    have := hO.1 k hk
    unfold aUp
    split <;> omega
  · intro k hk
    have := hO.2.1 k hk
    unfold aUp
    split <;> omega
  · intro k hk
    have := hO.2.2.1 k hk
    unfold aUp
    split <;> omega
  · intro k hk
    have := hO.2.2.2.1 k hk
    unfold aUp
    split <;> omega
  · intro k hk
    have := hO.2.2.2.2.1 k hk
    unfold aUp
    split <;> omega
  · intro k hk
    have := hO.2.2.2.2.2.1 k hk
    unfold aUp
    split <;> omega
  · have := hO.2.2.2.2.2.2.1
    unfold aUp
    rw [if_neg (by omega)]; exact this
  · have := hO.2.2.2.2.2.2.2
    unfold aUp
    rw [if_neg (by omega)]; exact this
theorem CV_ent {i x : Nat} (hC : CV M v A) (hi : i < 60) : CV (xup M (v + 5) i (eC x)) v (aUp A (60 + i) x) := by
  refine ⟨?_, ?_, ?_, ?_, ?_, ?_, ?_, ?_⟩
  · intro k hk
    rw [xup_ne M _ _ (by omega)]
    unfold aUp
    rw [if_neg (by omega)]
    exact hC.1 k hk
  · intro k hk
    rw [xup_ne M _ _ (by omega)]
    unfold aUp
    rw [if_neg (by omega)]
    exact hC.2.1 k hk
  · intro k hk
    rw [xup_ne M _ _ (by omega)]
    unfold aUp
    rw [if_neg (by omega)]
    exact hC.2.2.1 k hk
  · intro k hk
    rw [xup_ne M _ _ (by omega)]
    unfold aUp
    rw [if_neg (by omega)]
    exact hC.2.2.2.1 k hk
  · intro k hk
    rw [xup_at]
    unfold upd aUp
    by_cases z : k = i
    · subst z
      rw [if_pos rfl, if_pos rfl]
    · rw [if_neg z, if_neg (by omega)]
      exact hC.2.2.2.2.1 k hk
  · intro k hk
    rw [xup_ne M _ _ (by omega)]
    unfold aUp
    rw [if_neg (by omega)]
    exact hC.2.2.2.2.2.1 k hk
  · rw [xup_ne M _ _ (by omega)]
    unfold aUp
    rw [if_neg (by omega)]
    exact hC.2.2.2.2.2.2.1
  · rw [xup_ne M _ _ (by omega)]
    unfold aUp
    rw [if_neg (by omega)]
    exact hC.2.2.2.2.2.2.2
theorem aOK_ent {i x : Nat} (hO : aOK A) (hi : i < 60) (hx : x ≤ 260) : aOK (aUp A (60 + i) x) := by
  refine ⟨?_, ?_, ?_, ?_, ?_, ?_, ?_, ?_⟩
  · intro k hk
    have := hO.1 k hk
    unfold aUp
    split <;> omega
  · intro k hk
    have := hO.2.1 k hk
    unfold aUp
    split <;> omega
  · intro k hk
    have := hO.2.2.1 k hk
    unfold aUp
    split <;> omega
  · intro k hk
    have := hO.2.2.2.1 k hk
    unfold aUp
    split <;> omega
  · intro k hk
    have := hO.2.2.2.2.1 k hk
    unfold aUp
    split <;> omega
  · intro k hk
    have := hO.2.2.2.2.2.1 k hk
    unfold aUp
    split <;> omega
  · have := hO.2.2.2.2.2.2.1
    unfold aUp
    rw [if_neg (by omega)]; exact this
  · have := hO.2.2.2.2.2.2.2
    unfold aUp
    rw [if_neg (by omega)]; exact this
theorem CV_byt {i x : Nat} (hC : CV M v A) (hi : i < 24) : CV (xup M (v + 6) i (nI x)) v (aUp A (120 + i) x) := by
  refine ⟨?_, ?_, ?_, ?_, ?_, ?_, ?_, ?_⟩
  · intro k hk
    rw [xup_ne M _ _ (by omega)]
    unfold aUp
    rw [if_neg (by omega)]
    exact hC.1 k hk
  · intro k hk
    rw [xup_ne M _ _ (by omega)]
    unfold aUp
    rw [if_neg (by omega)]
    exact hC.2.1 k hk
  · intro k hk
    rw [xup_ne M _ _ (by omega)]
    unfold aUp
    rw [if_neg (by omega)]
    exact hC.2.2.1 k hk
  · intro k hk
    rw [xup_ne M _ _ (by omega)]
    unfold aUp
    rw [if_neg (by omega)]
    exact hC.2.2.2.1 k hk
  · intro k hk
    rw [xup_ne M _ _ (by omega)]
    unfold aUp
    rw [if_neg (by omega)]
    exact hC.2.2.2.2.1 k hk
  · intro k hk
    rw [xup_at]
    unfold upd aUp
    by_cases z : k = i
    · subst z
      rw [if_pos rfl, if_pos rfl]
    · rw [if_neg z, if_neg (by omega)]
      exact hC.2.2.2.2.2.1 k hk
  · rw [xup_ne M _ _ (by omega)]
    unfold aUp
    rw [if_neg (by omega)]
    exact hC.2.2.2.2.2.2.1
  · rw [xup_ne M _ _ (by omega)]
    unfold aUp
    rw [if_neg (by omega)]
    exact hC.2.2.2.2.2.2.2
theorem aOK_byt {i x : Nat} (hO : aOK A) (hi : i < 24) (hx : x ≤ 99) : aOK (aUp A (120 + i) x) := by
  refine ⟨?_, ?_, ?_, ?_, ?_, ?_, ?_, ?_⟩
  · intro k hk
    have := hO.1 k hk
    unfold aUp
    split <;> omega
  · intro k hk
    have := hO.2.1 k hk
    unfold aUp
    split <;> omega
  · intro k hk
    have := hO.2.2.1 k hk
    unfold aUp
    split <;> omega
  · intro k hk
    have := hO.2.2.2.1 k hk
    unfold aUp
    split <;> omega
  · intro k hk
    have := hO.2.2.2.2.1 k hk
    unfold aUp
    split <;> omega
  · intro k hk
    have := hO.2.2.2.2.2.1 k hk
    unfold aUp
    split <;> omega
  · have := hO.2.2.2.2.2.2.1
    unfold aUp
    rw [if_neg (by omega)]; exact this
  · have := hO.2.2.2.2.2.2.2
    unfold aUp
    rw [if_neg (by omega)]; exact this
theorem CV_bm {x : Nat} (hC : CV M v A) : CV (xup M v 6 (nI x)) v (aUp A 144 x) := by
  refine ⟨?_, ?_, ?_, ?_, ?_, ?_, ?_, ?_⟩
  · intro k hk
    rw [xup_ne M _ _ (by omega)]
    unfold aUp
    rw [if_neg (by omega)]; exact hC.1 k hk
  · intro k hk
    rw [xup_ne M _ _ (by omega)]
    unfold aUp
    rw [if_neg (by omega)]; exact hC.2.1 k hk
  · intro k hk
    rw [xup_ne M _ _ (by omega)]
    unfold aUp
    rw [if_neg (by omega)]; exact hC.2.2.1 k hk
  · intro k hk
    rw [xup_ne M _ _ (by omega)]
    unfold aUp
    rw [if_neg (by omega)]; exact hC.2.2.2.1 k hk
  · intro k hk
    rw [xup_ne M _ _ (by omega)]
    unfold aUp
    rw [if_neg (by omega)]; exact hC.2.2.2.2.1 k hk
  · intro k hk
    rw [xup_ne M _ _ (by omega)]
    unfold aUp
    rw [if_neg (by omega)]; exact hC.2.2.2.2.2.1 k hk
  · rw [xup_at]; simp [upd, aUp]
  · rw [xup_at]; simp [upd, aUp]; exact hC.2.2.2.2.2.2.2
theorem aOK_bm {x : Nat} (hO : aOK A) (hx : x < 2 ^ 24) : aOK (aUp A 144 x) := by
  refine ⟨?_, ?_, ?_, ?_, ?_, ?_, ?_, ?_⟩
  · intro k hk
    have := hO.1 k hk
    unfold aUp
    rw [if_neg (by omega)]; exact this
  · intro k hk
    have := hO.2.1 k hk
    unfold aUp
    rw [if_neg (by omega)]; exact this
  · intro k hk
    have := hO.2.2.1 k hk
    unfold aUp
    rw [if_neg (by omega)]; exact this
  · intro k hk
    have := hO.2.2.2.1 k hk
    unfold aUp
    rw [if_neg (by omega)]; exact this
  · intro k hk
    have := hO.2.2.2.2.1 k hk
    unfold aUp
    rw [if_neg (by omega)]; exact this
  · intro k hk
    have := hO.2.2.2.2.2.1 k hk
    unfold aUp
    rw [if_neg (by omega)]; exact this
  · unfold aUp; rw [if_pos rfl]; exact hx
  · unfold aUp; rw [if_neg (by omega)]; exact hO.2.2.2.2.2.2.2
theorem CV_im {x : Nat} (hC : CV M v A) : CV (xup M v 7 (nI x)) v (aUp A 145 x) := by
  refine ⟨?_, ?_, ?_, ?_, ?_, ?_, ?_, ?_⟩
  · intro k hk
    rw [xup_ne M _ _ (by omega)]
    unfold aUp
    rw [if_neg (by omega)]; exact hC.1 k hk
  · intro k hk
    rw [xup_ne M _ _ (by omega)]
    unfold aUp
    rw [if_neg (by omega)]; exact hC.2.1 k hk
  · intro k hk
    rw [xup_ne M _ _ (by omega)]
    unfold aUp
    rw [if_neg (by omega)]; exact hC.2.2.1 k hk
  · intro k hk
    rw [xup_ne M _ _ (by omega)]
    unfold aUp
    rw [if_neg (by omega)]; exact hC.2.2.2.1 k hk
  · intro k hk
    rw [xup_ne M _ _ (by omega)]
    unfold aUp
    rw [if_neg (by omega)]; exact hC.2.2.2.2.1 k hk
  · intro k hk
    rw [xup_ne M _ _ (by omega)]
    unfold aUp
    rw [if_neg (by omega)]; exact hC.2.2.2.2.2.1 k hk
  · rw [xup_at]; simp [upd, aUp]; exact hC.2.2.2.2.2.2.1
  · rw [xup_at]; simp [upd, aUp]
theorem aOK_im {x : Nat} (hO : aOK A) (hx : x < 2 ^ 10) : aOK (aUp A 145 x) := by
  refine ⟨?_, ?_, ?_, ?_, ?_, ?_, ?_, ?_⟩
  · intro k hk
    have := hO.1 k hk
    unfold aUp
    rw [if_neg (by omega)]; exact this
  · intro k hk
    have := hO.2.1 k hk
    unfold aUp
    rw [if_neg (by omega)]; exact this
  · intro k hk
    have := hO.2.2.1 k hk
    unfold aUp
    rw [if_neg (by omega)]; exact this
  · intro k hk
    have := hO.2.2.2.1 k hk
    unfold aUp
    rw [if_neg (by omega)]; exact this
  · intro k hk
    have := hO.2.2.2.2.1 k hk
    unfold aUp
    rw [if_neg (by omega)]; exact this
  · intro k hk
    have := hO.2.2.2.2.2.1 k hk
    unfold aUp
    rw [if_neg (by omega)]; exact this
  · unfold aUp; rw [if_neg (by omega)]; exact hO.2.2.2.2.2.2.1
  · unfold aUp; rw [if_pos rfl]; exact hx
def aWipe (A : Nat → Nat) (i kd : Nat) : Nat → Nat := fun q => if q = i then kd else if q = 10 + i then 0 else if q = 20 + i then 0 else if 30 + 3 * i ≤ q ∧ q < 33 + 3 * i then 99 else if 60 + 6 * i ≤ q ∧ q < 66 + 6 * i then 260 else A q
theorem aOK_wipe {i kd : Nat} (hO : aOK A) (hi : i < 10) (hk : kd < 6) : aOK (aWipe A i kd) := by
  obtain ⟨h1, h2, h3, h4, h5, h6, h7, h8⟩ := hO
  refine ⟨fun k hk => ?_, fun k hk => ?_, fun k hk => ?_, fun k hk => ?_, fun k hk => ?_, fun k hk => ?_, ?_, ?_⟩ <;> unfold aWipe
  · have := h1 k hk
    split
    · omega
    · rw [if_neg (by omega), if_neg (by omega), if_neg (by omega), if_neg (by omega)]; exact this
  · have := h2 k hk
    rw [if_neg (by omega)]
    split
    · omega
    · rw [if_neg (by omega), if_neg (by omega), if_neg (by omega)]; exact this
  · have := h3 k hk
    rw [if_neg (by omega), if_neg (by omega)]
    split
    · omega
    · rw [if_neg (by omega), if_neg (by omega)]; exact this
  · have := h4 k hk
    rw [if_neg (by omega), if_neg (by omega), if_neg (by omega)]
    split
    · omega
    · rw [if_neg (by omega)]; exact this
  · have := h5 k hk
    rw [if_neg (by omega), if_neg (by omega), if_neg (by omega), if_neg (by omega)]
    split
    · omega
    · exact this
  · have := h6 k hk
    rw [if_neg (by omega), if_neg (by omega), if_neg (by omega), if_neg (by omega), if_neg (by omega)]; exact this
  · rw [if_neg (by omega), if_neg (by omega), if_neg (by omega), if_neg (by omega), if_neg (by omega)]; exact h7
  · rw [if_neg (by omega), if_neg (by omega), if_neg (by omega), if_neg (by omega), if_neg (by omega)]; exact h8
theorem r_wipe {i : Nat} {Q : xM → Prop} (hC : CV M v A) (hi : i < 10) (hq : ∀ M', CV M' v (aWipe A i 0) → sOff v (v + 6) M M' → Q M') : wX2_wipe M v (nI i) Q := by
  unfold wX2_wipe
  simp (disch := omega) only [zl, z_in, z_cl, hi, true_and]
  have c3 : CV (xup (xup (xup M (v + 1) i (nI 0)) (v + 2) i (nI 0)) (v + 3) i (nI 0)) v (aUp (aUp (aUp A i 0) (10 + i) 0) (20 + i) 0) := CV_par (CV_link (CV_kind hC hi) hi) hi
  have s3 : sOff v (v + 6) M (xup (xup (xup M (v + 1) i (nI 0)) (v + 2) i (nI 0)) (v + 3) i (nI 0)) := sOff_tr (sOff_tr (sOff_up (by omega)) (sOff_up (by omega))) (sOff_up (by omega))
  generalize xup (xup (xup M (v + 1) i (nI 0)) (v + 2) i (nI 0)) (v + 3) i (nI 0) = M3 at c3 s3
  obtain ⟨B, hB⟩ : ∃ B, B = aUp (aUp (aUp A i 0) (10 + i) 0) (20 + i) 0 := ⟨_, rfl⟩
  rw [← hB] at c3
  have key := z_loop (P := fun n j => ∀ M', CV M' v (fun q => if 30 + 3 * i ≤ q ∧ q < 30 + 3 * i + j then 99 else B q) → sOff v (v + 6) M M' → lX2_wipe_23 v (nI i) Q n M' (nI j)) 3 (fun n M' hM' hs => ?_) (fun n j hj hn M' hM' hs => ?_)
  · obtain ⟨n, h⟩ := key
    exact ⟨n, h M3 (CV_cong c3 (fun q _ => by rw [if_neg (by omega)])) s3⟩
  · unfold lX2_wipe_23
    simp (disch := omega) only [zl, z_le, Nat.le_refl, true_implies, not_true, false_implies, and_true]
    have key := z_loop (P := fun n j => ∀ M'', CV M'' v (fun q => if 60 + 6 * i ≤ q ∧ q < 60 + 6 * i + j then 260 else if 30 + 3 * i ≤ q ∧ q < 30 + 3 * i + 3 then 99 else B q) → sOff v (v + 6) M M'' → lX2_wipe_48 v (nI i) Q n M'' (nI j)) 6 (fun n M'' hM'' hs => ?_) (fun n j hj hn M'' hM'' hs => ?_)
    · obtain ⟨n, h⟩ := key
      exact ⟨n, h M' (CV_cong hM' (fun q _ => by
        by_cases z : 60 + 6 * i ≤ q ∧ q < 60 + 6 * i + 0
        · omega
        · rw [if_neg z])) hs⟩
    · unfold lX2_wipe_48
      simp (disch := omega) only [zl, z_le, Nat.le_refl, true_implies, not_true, false_implies, and_true]
      refine hq _ (CV_cong hM'' (fun q _ => ?_)) hs
      subst hB
      unfold aWipe aUp
      repeat' split
      all_goals first | rfl | omega
    · unfold lX2_wipe_48
      simp (disch := omega) only [zl, z_le, z_mul, z_add, z_in, z_cl]
      refine ⟨fun z => absurd z (by omega), fun _ => ⟨by omega, hn _ ?_ (sOff_tr hs (sOff_up (by omega)))⟩⟩
      have c := CV_ent (x := 260) hM'' (show 6 * i + j < 60 by omega)
      have e : eC 260 = -nI 9 := rfl
      rw [e] at c
      refine CV_cong c (fun q _ => ?_)
      simp only [aUp]
      repeat' split
      all_goals first | rfl | omega
  · unfold lX2_wipe_23
    simp (disch := omega) only [zl, z_le, z_mul, z_add, z_in, z_cl]
    refine ⟨fun z => absurd z (by omega), fun _ => ⟨by omega, hn _ ?_ (sOff_tr hs (sOff_up (by omega)))⟩⟩
    have c := CV_ptr (x := 99) hM' (show 3 * i + j < 30 by omega)
    have e : tC 99 = -nI 9 := rfl
    rw [e] at c
    refine CV_cong c (fun q _ => ?_)
    simp only [aUp]
    repeat' split
    all_goals first | rfl | omega
theorem r_pointAt {i p t : Nat} {Q : xM → Prop} (hC : CV M v A) (hi : i < 10) (hp : p < 3) (ht : t ≤ 99) (hq : ∀ M', CV M' v (aUp A (30 + (3 * i + p)) t) → sOff v (v + 6) M M' → Q M') : wX2_pointAt M v (nI i) (nI p) (nI t) Q := by
  unfold wX2_pointAt wX2_pointAt_21
  simp (disch := omega) only [zl, z_eq, z_mul, z_add, z_in, z_cl]
  refine ⟨fun z => ⟨by omega, ?_⟩, fun z => ⟨by omega, ?_⟩⟩
  · have c := CV_ptr (x := t) hC (show 3 * i + p < 30 by omega)
    rw [tC_some z] at c
    exact hq _ c (sOff_up (by omega))
  · subst z
    exact hq _ (CV_ptr (x := 99) hC (show 3 * i + p < 30 by omega)) (sOff_up (by omega))
theorem r_enter {i s nm t : Nat} {Q : xM → Prop} (hC : CV M v A) (hi : i < 10) (hs : s < 6) (hn : nm < 26) (ht : t < 10) (hq : ∀ M', CV M' v (aUp A (60 + (6 * i + s)) (26 * t + nm)) → sOff v (v + 6) M M' → Q M') : wX2_enter M v (nI i) (nI s) (nI nm) (nI t) Q := by
  unfold wX2_enter
  simp (disch := omega) only [zl, z_mul, z_add, z_in, z_cl]
  refine ⟨by omega, ?_⟩
  have c := CV_ent (x := 26 * t + nm) hC (show 6 * i + s < 60 by omega)
  rw [eC_some (by omega)] at c
  exact hq _ c (sOff_up (by omega))
theorem xVol_ap {v o : Nat} (hv : xVol v) (ho : xVol o) (hne : v ≠ o) : v + 7 ≤ o ∨ o + 7 ≤ v := by
  rcases hv with rfl | rfl | rfl | rfl | rfl <;> rcases ho with rfl | rfl | rfl | rfl | rfl <;> omega
theorem z_c0 : Int32.toNatClampNeg 0 = 0 := rfl
theorem r_takeFrom {o : Nat} {Q : xM → Prop} (hv : xVol v) (ho : xVol o) (hne : v ≠ o) (hC : CV M o A) (hq : ∀ M', CV M' v A → sOff v (v + 6) M M' → Q M') : wX2_takeFrom M v o Q := by
  have hap := xVol_ap hv ho hne
  obtain ⟨h1, h2, h3, h4, h5, h6, h7, h8⟩ := hC
  unfold wX2_takeFrom
  simp only [z_c0, show Int32.toNatClampNeg 10 = 10 from rfl, show Int32.toNatClampNeg 30 = 30 from rfl, show Int32.toNatClampNeg 60 = 60 from rfl, show Int32.toNatClampNeg 24 = 24 from rfl]
  intro M12 e12 M27 e27 M42 e42 M57 e57 M72 e72 M87 e87
  have n1 : ∀ p, p ≠ v + 1 → M12 p = M p := fun p h => by rw [e12]; exact if_neg h
  have a1 : M12 (v + 1) = va_cpy (M (o + 1)) (M (v + 1)) 0 0 10 := by rw [e12]; exact if_pos rfl
  have n2 : ∀ p, p ≠ v + 2 → M27 p = M12 p := fun p h => by rw [e27]; exact if_neg h
  have a2 : M27 (v + 2) = va_cpy (M12 (o + 2)) (M12 (v + 2)) 0 0 10 := by rw [e27]; exact if_pos rfl
  have n3 : ∀ p, p ≠ v + 3 → M42 p = M27 p := fun p h => by rw [e42]; exact if_neg h
  have a3 : M42 (v + 3) = va_cpy (M27 (o + 3)) (M27 (v + 3)) 0 0 10 := by rw [e42]; exact if_pos rfl
  have n4 : ∀ p, p ≠ v + 4 → M57 p = M42 p := fun p h => by rw [e57]; exact if_neg h
  have a4 : M57 (v + 4) = va_cpy (M42 (o + 4)) (M42 (v + 4)) 0 0 30 := by rw [e57]; exact if_pos rfl
  have n5 : ∀ p, p ≠ v + 5 → M72 p = M57 p := fun p h => by rw [e72]; exact if_neg h
  have a5 : M72 (v + 5) = va_cpy (M57 (o + 5)) (M57 (v + 5)) 0 0 60 := by rw [e72]; exact if_pos rfl
  have n6 : ∀ p, p ≠ v + 6 → M87 p = M72 p := fun p h => by rw [e87]; exact if_neg h
  have a6 : M87 (v + 6) = va_cpy (M72 (o + 6)) (M72 (v + 6)) 0 0 24 := by rw [e87]; exact if_pos rfl
  have g : ∀ p, ¬ (v + 1 ≤ p ∧ p ≤ v + 6) → M87 p = M p := fun p hp => by rw [n6 _ (by omega), n5 _ (by omega), n4 _ (by omega), n3 _ (by omega), n2 _ (by omega), n1 _ (by omega)]
  have g1 : M87 (v + 1) = va_cpy (M (o + 1)) (M (v + 1)) 0 0 10 := by rw [n6 _ (by omega), n5 _ (by omega), n4 _ (by omega), n3 _ (by omega), n2 _ (by omega), a1]
  have g2 : M87 (v + 2) = va_cpy (M (o + 2)) (M (v + 2)) 0 0 10 := by rw [n6 _ (by omega), n5 _ (by omega), n4 _ (by omega), n3 _ (by omega), a2, n1 (o + 2) (by omega), n1 (v + 2) (by omega)]
  have g3 : M87 (v + 3) = va_cpy (M (o + 3)) (M (v + 3)) 0 0 10 := by rw [n6 _ (by omega), n5 _ (by omega), n4 _ (by omega), a3, n2 (o + 3) (by omega), n2 (v + 3) (by omega), n1 (o + 3) (by omega), n1 (v + 3) (by omega)]
  have g4 : M87 (v + 4) = va_cpy (M (o + 4)) (M (v + 4)) 0 0 30 := by rw [n6 _ (by omega), n5 _ (by omega), a4, n3 (o + 4) (by omega), n3 (v + 4) (by omega), n2 (o + 4) (by omega), n2 (v + 4) (by omega), n1 (o + 4) (by omega), n1 (v + 4) (by omega)]
  have g5 : M87 (v + 5) = va_cpy (M (o + 5)) (M (v + 5)) 0 0 60 := by rw [n6 _ (by omega), a5, n4 (o + 5) (by omega), n4 (v + 5) (by omega), n3 (o + 5) (by omega), n3 (v + 5) (by omega), n2 (o + 5) (by omega), n2 (v + 5) (by omega), n1 (o + 5) (by omega), n1 (v + 5) (by omega)]
  have g6 : M87 (v + 6) = va_cpy (M (o + 6)) (M (v + 6)) 0 0 24 := by rw [a6, n5 (o + 6) (by omega), n5 (v + 6) (by omega), n4 (o + 6) (by omega), n4 (v + 6) (by omega), n3 (o + 6) (by omega), n3 (v + 6) (by omega), n2 (o + 6) (by omega), n2 (v + 6) (by omega), n1 (o + 6) (by omega), n1 (v + 6) (by omega)]
  clear e12 e27 e42 e57 e72 e87
  have cp : ∀ (f h : Nat → Int32) (n j : Nat), j < n → va_cpy f h 0 0 n j = f j := fun f h n j hj => by
    rw [pk_cpy_in (Nat.zero_le j) (by omega)]; simp
  refine hq _ ⟨fun k hk => ?_, fun k hk => ?_, fun k hk => ?_, fun k hk => ?_, fun k hk => ?_, fun k hk => ?_, ?_, ?_⟩ (fun p hp => ?_)
  · rw [xup_ne _ _ _ (by omega), xup_ne _ _ _ (by omega), g1, cp _ _ _ _ hk]; exact h1 k hk
  · rw [xup_ne _ _ _ (by omega), xup_ne _ _ _ (by omega), g2, cp _ _ _ _ hk]; exact h2 k hk
  · rw [xup_ne _ _ _ (by omega), xup_ne _ _ _ (by omega), g3, cp _ _ _ _ hk]; exact h3 k hk
  · rw [xup_ne _ _ _ (by omega), xup_ne _ _ _ (by omega), g4, cp _ _ _ _ hk]; exact h4 k hk
  · rw [xup_ne _ _ _ (by omega), xup_ne _ _ _ (by omega), g5, cp _ _ _ _ hk]; exact h5 k hk
  · rw [xup_ne _ _ _ (by omega), xup_ne _ _ _ (by omega), g6, cp _ _ _ _ hk]; exact h6 k hk
  · rw [xup_at, xup_at, upd, if_neg (by omega), upd, if_pos rfl, g o (by omega)]; exact h7
  · rw [xup_at, upd, if_pos rfl, xup_ne _ _ _ (by omega), g o (by omega)]; exact h8
  · rw [xup_ne _ _ _ (by omega), xup_ne _ _ _ (by omega), g p (by omega)]
theorem r_fill {q : Nat} {x : Int32} {Q : xM → Prop} (hl : xln q < 1000) (hq : ∀ M', (∀ j, j < xln q → M' q j = x) → (∀ p, p ≠ q → M' p = M p) → Q M') : wJ7_fill_53178 M q x Q := by
  unfold wJ7_fill_53178
  have key := z_loop (P := fun n j => ∀ M', (∀ k, k < j → M' q k = x) → (∀ p, p ≠ q → M' p = M p) → lJ7_fill_53178_5 q x Q n M' (nI j)) (xln q) (fun n M' h1 h2 => ?_) (fun n j hj hn M' h1 h2 => ?_)
  · obtain ⟨n, h⟩ := key
    exact ⟨n, h M (fun k hk => absurd hk (Nat.not_lt_zero k)) (fun _ _ => rfl)⟩
  · unfold lJ7_fill_53178_5
    simp (disch := omega) only [zl, z_le, Nat.le_refl, true_implies, not_true, false_implies, and_true]
    exact hq M' h1 h2
  · unfold lJ7_fill_53178_5
    simp (disch := omega) only [zl, z_le, z_in, z_cl, z_add, hj, true_and]
    refine ⟨fun z => absurd z (by omega), fun _ => hn _ (fun k hk => ?_) (fun p hp => by rw [xup_ne _ _ _ hp]; exact h2 p hp)⟩
    rw [xup_at, upd]
    split
    · rfl
    · exact h1 k (by omega)
theorem r_countEntries {q : Nat} {Q : xM → Prop} (hV : xVol v) (hl : xln q = 10) (hqv : q < v ∨ v + 6 < q) (hC : CV M v A) (hO : aOK A) (hq : ∀ M', (∀ t, t < 10 → M' q t = nI (fb_ct (aEnt A t) 60)) → (∀ p, p ≠ q → M' p = M p) → Q M') : wX2_countEntries M v q Q := by
  unfold wX2_countEntries
  refine r_fill (by omega) fun M1 f1 f2 => ?_
  have hC1 : CV M1 v A := CV_same hC fun d hd => f2 _ (by omega)
  have key := z_loop (P := fun n j => ∀ M', (∀ t, t < 10 → M' q t = nI (fb_ct (aEnt A t) j)) → (∀ p, p ≠ q → M' p = M p) → lX2_countEntries_7 v q Q n M' (nI j)) 60 (fun n M' g1 g2 => ?_) (fun n j hj hn M' g1 g2 => ?_)
  · obtain ⟨n, h⟩ := key
    exact ⟨n, h M1 (fun t ht => f1 t (by omega)) f2⟩
  · unfold lX2_countEntries_7
    rw [xVol_l5 hV]
    simp (disch := omega) only [zl, z_le, Nat.le_refl, true_implies, not_true, false_implies, and_true]
    exact hq M' g1 g2
  · have hC' : CV M' v A := CV_same hC fun d hd => g2 _ (by omega)
    have h1 := hC'.2.2.2.2.1 j hj
    have h2 := hO.2.2.2.2.1 j hj
    unfold lX2_countEntries_7 wX2_countEntries_41 wX2_countEntries_59
    rw [xVol_l5 hV]
    dsimp only
    rw [hl]
    simp (disch := omega) only [zl 0, zl 1, zl 9, zl 26, z_le, z_in, z_cl, h1, z_add, hj, true_and, eC_n9]
    refine ⟨fun z => absurd z (by omega), fun _ => ⟨fun z => ?_, fun z => ?_⟩⟩
    · rw [eC_some z]
      simp (disch := omega) only [z_div, z_lt, z_le, z_in, z_cl, Nat.not_lt_zero, false_implies, not_false_iff, true_implies, true_and]
      refine ⟨fun z2 => absurd z2 (by omega), fun _ => ⟨by omega, hn _ (fun t ht => ?_) (fun p hp => by rw [xup_ne _ _ _ hp]; exact g2 p hp)⟩⟩
      rw [xup_at, upd]
      split
      · rename_i e
        subst e
        rw [g1 _ ht, z_add, fb_ct_succ, if_pos (by unfold aEnt; simp [z])]
      · rename_i e
        rw [g1 _ ht, fb_ct_succ, if_neg (by unfold aEnt; simp; intro _; omega), Nat.add_zero]
    · refine ⟨fun _ => hn _ (fun t ht => ?_) g2, fun z2 => absurd (show (-nI 9 : Int32) < nI 0 by decide) z2⟩
      rw [g1 _ ht, fb_ct_succ, if_neg (by unfold aEnt; simp [z]), Nat.add_zero]
end XV
