/-! walks: X4_wipes, J0_checkIndex_df160, J0_length_8abf5, J1_indexOf_4cfef, X0_cutOff, X0_faultOfEntry, X0_mendMaps, X0_mendParents, X1_digitAt, X1_nameAt, X2_blockOf, X2_countEntries -/
def eX4_wipes_0 : List xI := [(.aload_n 0, 1, 0, 0, 0), (.getfield 7, 3, 4, 1, 0), (.iconst 0, 1, 0, 0, (0)), (.iload_n 1, 1, 0, 0, 0), (.iadd, 1, 0, 0, 0), (.iload_n 2, 1, 0, 0, 0), (.iastore, 1, 0, 0, 0), (.aload_n 0, 1, 0, 0, 0), (.getfield 7, 3, 4, 1, 0), (.bipush 10, 2, 0, 0, (10)), (.iload_n 1, 1, 0, 0, 0), (.iadd, 1, 0, 0, 0), (.iconst 0, 1, 0, 0, (0)), (.iastore, 1, 0, 0, 0), (.aload_n 0, 1, 0, 0, 0), (.getfield 7, 3, 4, 1, 0), (.bipush 20, 2, 0, 0, (20)), (.iload_n 1, 1, 0, 0, 0), (.iadd, 1, 0, 0, 0), (.iconst 0, 1, 0, 0, (0)), (.iastore, 1, 0, 0, 0), (.iconst 0, 1, 0, 0, (0)), (.istore_n 3, 1, 0, 0, 0)]
theorem kX4_wipes_0 : xcode (xmb mX4_wipes) (xmo mX4_wipes) 0 eX4_wipes_0 = true := by decide +kernel
def eX4_wipes_31 : List xI := [(.iload_n 3, 1, 0, 0, 0), (.iconst 3, 1, 0, 0, (3))]
theorem kX4_wipes_31 : xcode (xmb mX4_wipes) (xmo mX4_wipes) 31 eX4_wipes_31 = true := by decide +kernel
def eX4_wipes_57 : List xI := [(.iconst 0, 1, 0, 0, (0)), (.istore_n 3, 1, 0, 0, 0)]
theorem kX4_wipes_57 : xcode (xmb mX4_wipes) (xmo mX4_wipes) 57 eX4_wipes_57 = true := by decide +kernel
def eX4_wipes_59 : List xI := [(.iload_n 3, 1, 0, 0, 0), (.bipush 6, 2, 0, 0, (6))]
theorem kX4_wipes_59 : xcode (xmb mX4_wipes) (xmo mX4_wipes) 59 eX4_wipes_59 = true := by decide +kernel
def eX4_wipes_65 : List xI := [(.aload_n 0, 1, 0, 0, 0), (.getfield 7, 3, 4, 1, 0), (.bipush 60, 2, 0, 0, (60)), (.bipush 6, 2, 0, 0, (6)), (.iload_n 1, 1, 0, 0, 0), (.imul, 1, 0, 0, 0), (.iadd, 1, 0, 0, 0), (.iload_n 3, 1, 0, 0, 0), (.iadd, 1, 0, 0, 0), (.iconst (-1), 1, 0, 0, (-1)), (.iastore, 1, 0, 0, 0), (.iinc 3 1, 3, 0, 0, (1))]
theorem kX4_wipes_65 : xcode (xmb mX4_wipes) (xmo mX4_wipes) 65 eX4_wipes_65 = true := by decide +kernel
def eX4_wipes_36 : List xI := [(.aload_n 0, 1, 0, 0, 0), (.getfield 7, 3, 4, 1, 0), (.bipush 30, 2, 0, 0, (30)), (.iconst 3, 1, 0, 0, (3)), (.iload_n 1, 1, 0, 0, 0), (.imul, 1, 0, 0, 0), (.iadd, 1, 0, 0, 0), (.iload_n 3, 1, 0, 0, 0), (.iadd, 1, 0, 0, 0), (.bipush 99, 2, 0, 0, (99)), (.iastore, 1, 0, 0, 0), (.iinc 3 1, 3, 0, 0, (1))]
theorem kX4_wipes_36 : xcode (xmb mX4_wipes) (xmo mX4_wipes) 36 eX4_wipes_36 = true := by decide +kernel
def lX4_wipes_59 (p1 : Int32) (p2 : Int32) (Q : xM → Prop) : Nat → xM → Int32 → Prop
  | 0 => fun _ _ => False
  | n + 1 => let k59 := lX4_wipes_59 p1 p2 Q n; fun M a3 =>
    ((((6 : Int32) ≤ a3) → (Q M)) ∧ ((¬ (6 : Int32) ≤ a3) → ((vp_in (((60 : Int32) + ((6 : Int32) * p1)) + a3) 147) ∧ k59 (xup M 51 (((60 : Int32) + ((6 : Int32) * p1)) + a3).toNatClampNeg (-1 : Int32)) (a3 + (1 : Int32)))))
set_option maxHeartbeats 4000000 in
set_option maxRecDepth 100000 in
theorem tX4_wipes_59 {l : Launch} {E : xE} {p1 : Int32} {p2 : Int32} {Q : xM → Prop} (n : Nat) : ∀ (M : xM) (a3 : Int32), lX4_wipes_59 p1 p2 Q n M a3 → Gx l E mX4_wipes (xRv Q) 59 M [some (.ref 50), some (.int p1), none, some (.int a3)] [] := by
  induction n with
  | zero => intro M a3 h; exact h.elim
  | succ n hk59 =>
      intro M a3 h
      unfold lX4_wipes_59 at h
      dsimp only at h
      refine Gx_run (es := eX4_wipes_59) (P := []) (M' := M) (L' := [some (.ref 50), some (.int p1), none, some (.int a3)]) (st' := [.int (6 : Int32), .int a3]) (pc' := 62) kX4_wipes_59 rfl trivial rfl ?_
      refine Gx_icmp_ge (off := 24) (tgt := 86) (by decide +kernel) (by decide) (fun z => ?_) (fun z => ?_)
      · have h := h.1 z
        exact Gx_vret (by decide +kernel) rfl ⟨rfl, h⟩
      · have h := h.2 z
        obtain ⟨g65_0, h⟩ := h
        refine Gx_run (es := eX4_wipes_65) (P := [xkd 50 = 4, xkd 51 = 5, vp_in (((60 : Int32) + ((6 : Int32) * p1)) + a3) (xln 51)]) (M' := (xup M 51 (((60 : Int32) + ((6 : Int32) * p1)) + a3).toNatClampNeg (-1 : Int32))) (L' := [some (.ref 50), some (.int p1), none, some (.int (a3 + (1 : Int32)))]) (st' := []) (pc' := 83) kX4_wipes_65 rfl ⟨rfl, rfl, g65_0, trivial⟩ rfl ?_
        refine Gx_goto (off := -24) (tgt := 59) (by decide +kernel) (by decide) ?_
        refine Gx_mask [true, true, false, true] (L' := [some (.ref 50), some (.int p1), none, some (.int (a3 + (1 : Int32)))]) rfl ?_
        exact hk59 (xup M 51 (((60 : Int32) + ((6 : Int32) * p1)) + a3).toNatClampNeg (-1 : Int32)) (a3 + (1 : Int32)) h
def lX4_wipes_31 (p1 : Int32) (p2 : Int32) (Q : xM → Prop) : Nat → xM → Int32 → Prop
  | 0 => fun _ _ => False
  | n + 1 => let k31 := lX4_wipes_31 p1 p2 Q n; fun M a3 =>
    ((((3 : Int32) ≤ a3) → ((∃ n : Nat, lX4_wipes_59 p1 p2 Q n M (0 : Int32)))) ∧ ((¬ (3 : Int32) ≤ a3) → ((vp_in (((30 : Int32) + ((3 : Int32) * p1)) + a3) 147) ∧ k31 (xup M 51 (((30 : Int32) + ((3 : Int32) * p1)) + a3).toNatClampNeg (99 : Int32)) (a3 + (1 : Int32)))))
set_option maxHeartbeats 4000000 in
set_option maxRecDepth 100000 in
theorem tX4_wipes_31 {l : Launch} {E : xE} {p1 : Int32} {p2 : Int32} {Q : xM → Prop} (n : Nat) : ∀ (M : xM) (a3 : Int32), lX4_wipes_31 p1 p2 Q n M a3 → Gx l E mX4_wipes (xRv Q) 31 M [some (.ref 50), some (.int p1), none, some (.int a3)] [] := by
  induction n with
  | zero => intro M a3 h; exact h.elim
  | succ n hk31 =>
      intro M a3 h
      unfold lX4_wipes_31 at h
      dsimp only at h
      refine Gx_run (es := eX4_wipes_31) (P := []) (M' := M) (L' := [some (.ref 50), some (.int p1), none, some (.int a3)]) (st' := [.int (3 : Int32), .int a3]) (pc' := 33) kX4_wipes_31 rfl trivial rfl ?_
      refine Gx_icmp_ge (off := 24) (tgt := 57) (by decide +kernel) (by decide) (fun z => ?_) (fun z => ?_)
      · have h := h.1 z
        refine Gx_run (es := eX4_wipes_57) (P := []) (M' := M) (L' := [some (.ref 50), some (.int p1), none, some (.int (0 : Int32))]) (st' := []) (pc' := 59) kX4_wipes_57 rfl trivial rfl ?_
        refine Gx_mask [true, true, false, true] (L' := [some (.ref 50), some (.int p1), none, some (.int (0 : Int32))]) rfl ?_
        obtain ⟨n, h⟩ := h
        exact tX4_wipes_59  n M (0 : Int32) h
      · have h := h.2 z
        obtain ⟨g36_0, h⟩ := h
        refine Gx_run (es := eX4_wipes_36) (P := [xkd 50 = 4, xkd 51 = 5, vp_in (((30 : Int32) + ((3 : Int32) * p1)) + a3) (xln 51)]) (M' := (xup M 51 (((30 : Int32) + ((3 : Int32) * p1)) + a3).toNatClampNeg (99 : Int32))) (L' := [some (.ref 50), some (.int p1), none, some (.int (a3 + (1 : Int32)))]) (st' := []) (pc' := 54) kX4_wipes_36 rfl ⟨rfl, rfl, g36_0, trivial⟩ rfl ?_
        refine Gx_goto (off := -23) (tgt := 31) (by decide +kernel) (by decide) ?_
        refine Gx_mask [true, true, false, true] (L' := [some (.ref 50), some (.int p1), none, some (.int (a3 + (1 : Int32)))]) rfl ?_
        exact hk31 (xup M 51 (((30 : Int32) + ((3 : Int32) * p1)) + a3).toNatClampNeg (99 : Int32)) (a3 + (1 : Int32)) h
def wX4_wipes (M : xM) (p1 : Int32) (p2 : Int32) (Q : xM → Prop) : Prop :=
    (vp_in ((0 : Int32) + p1) 147) ∧ (vp_in ((10 : Int32) + p1) 147) ∧ (vp_in ((20 : Int32) + p1) 147) ∧ (∃ n : Nat, lX4_wipes_31 p1 p2 Q n (xup (xup (xup M 51 ((0 : Int32) + p1).toNatClampNeg p2) 51 ((10 : Int32) + p1).toNatClampNeg (0 : Int32)) 51 ((20 : Int32) + p1).toNatClampNeg (0 : Int32)) (0 : Int32))
set_option maxHeartbeats 4000000 in
set_option maxRecDepth 100000 in
theorem tX4_wipes {l : Launch} {E : xE} {M : xM} {p1 : Int32} {p2 : Int32} {Q : xM → Prop} (h : wX4_wipes M p1 p2 Q) : Ct l E mX4_wipes [.ref 50, .int p1, .int p2] M (xRv Q) := by
  refine Ct_of (by decide +kernel) rfl (Nat.le_of_ble_eq_true rfl) ?_
  unfold wX4_wipes at h
  show Gx l E mX4_wipes (xRv Q) 0 M [some (.ref 50), some (.int p1), some (.int p2), none] []
  obtain ⟨g0_0, g0_1, g0_2, h⟩ := h
  refine Gx_run (es := eX4_wipes_0) (P := [xkd 50 = 4, xkd 51 = 5, vp_in ((0 : Int32) + p1) (xln 51), xkd 50 = 4, xkd 51 = 5, vp_in ((10 : Int32) + p1) (xln 51), xkd 50 = 4, xkd 51 = 5, vp_in ((20 : Int32) + p1) (xln 51)]) (M' := (xup (xup (xup M 51 ((0 : Int32) + p1).toNatClampNeg p2) 51 ((10 : Int32) + p1).toNatClampNeg (0 : Int32)) 51 ((20 : Int32) + p1).toNatClampNeg (0 : Int32))) (L' := [some (.ref 50), some (.int p1), some (.int p2), some (.int (0 : Int32))]) (st' := []) (pc' := 31) kX4_wipes_0 rfl ⟨rfl, rfl, g0_0, rfl, rfl, g0_1, rfl, rfl, g0_2, trivial⟩ rfl ?_
  refine Gx_mask [true, true, false, true] (L' := [some (.ref 50), some (.int p1), none, some (.int (0 : Int32))]) rfl ?_
  obtain ⟨n, h⟩ := h
  exact tX4_wipes_31  n (xup (xup (xup M 51 ((0 : Int32) + p1).toNatClampNeg p2) 51 ((10 : Int32) + p1).toNatClampNeg (0 : Int32)) 51 ((20 : Int32) + p1).toNatClampNeg (0 : Int32)) (0 : Int32) h
def eJ0_checkIndex_df160_0 : List xI := [(.iload_n 0, 1, 0, 0, 0), (.iload_n 1, 1, 0, 0, 0), (.getstatic 1053, 3, 3, 0, 0)]
theorem kJ0_checkIndex_df160_0 : xcode (xmb mJ0_checkIndex_df160) (xmo mJ0_checkIndex_df160) 0 eJ0_checkIndex_df160_0 = true := by decide +kernel
def eJ0_checkIndex_df160_8 : List xI := [(.pop, 1, 0, 0, 0)]
theorem kJ0_checkIndex_df160_8 : xcode (xmb mJ0_checkIndex_df160) (xmo mJ0_checkIndex_df160) 8 eJ0_checkIndex_df160_8 = true := by decide +kernel
def wJ0_checkIndex_df160 (M : xM) (p1 : Int32) (p2 : Int32) (Q : xM → Prop) : Prop :=
    wJ3_checkIndex_8e157 M p1 p2 103 (fun r5 M5 => Q M5)
set_option maxHeartbeats 4000000 in
set_option maxRecDepth 100000 in
theorem tJ0_checkIndex_df160 {l : Launch} {E : xE} {M : xM} {p1 : Int32} {p2 : Int32} {Q : xM → Prop} (h : wJ0_checkIndex_df160 M p1 p2 Q) : Ct l E mJ0_checkIndex_df160 [.int p1, .int p2] M (xRv Q) := by
  refine Ct_of (by decide +kernel) rfl (Nat.le_of_ble_eq_true rfl) ?_
  unfold wJ0_checkIndex_df160 at h
  show Gx l E mJ0_checkIndex_df160 (xRv Q) 0 M [some (.int p1), some (.int p2)] []
  refine Gx_run (es := eJ0_checkIndex_df160_0) (P := []) (M' := M) (L' := [some (.int p1), some (.int p2)]) (st' := [.ref 103, .int p2, .int p1]) (pc' := 5) kJ0_checkIndex_df160_0 rfl trivial rfl ?_
  refine Gx_callS (As := [.int p1, .int p2, .ref 103]) (by decide +kernel) ml_5_1059 okJ3_checkIndex_8e157 mvJ3_checkIndex_8e157 rfl (by decide) (Nat.le_of_ble_eq_true rfl) (tJ3_checkIndex_8e157 trivial h) (fun rr M5 qq => ?_)
  obtain ⟨r5, rfl, h⟩ := qq
  show Gx l E mJ0_checkIndex_df160 _ 8 M5 [some (.int p1), some (.int p2)] [.int r5]
  refine Gx_run (es := eJ0_checkIndex_df160_8) (P := []) (M' := M5) (L' := [some (.int p1), some (.int p2)]) (st' := []) (pc' := 9) kJ0_checkIndex_df160_8 rfl trivial rfl ?_
  exact Gx_vret (by decide +kernel) rfl ⟨rfl, h⟩
def eJ0_length_8abf5_0 : List xI := [(.aload_n 0, 1, 0, 0, 0), (.getfield 9, 3, 9, 0, 0), (.arraylength, 1, 1, 0, 0), (.aload_n 0, 1, 0, 0, 0)]
theorem kJ0_length_8abf5_0 : xcode (xmb mJ0_length_8abf5) (xmo mJ0_length_8abf5) 0 eJ0_length_8abf5_0 = true := by decide +kernel
def eJ0_length_8abf5_9 : List xI := [(.ishr, 1, 0, 0, 0)]
theorem kJ0_length_8abf5_9 : xcode (xmb mJ0_length_8abf5) (xmo mJ0_length_8abf5) 9 eJ0_length_8abf5_9 = true := by decide +kernel
def wJ0_length_8abf5 (M : xM) (t : Nat) (Q : Int32 → xM → Prop) : Prop :=
    wJ0_coder_7d493 M t (fun r6 M6 => Q ((nI (xsl ((t + 20) - 130))) >>> (r6 &&& 31)) M6)
set_option maxHeartbeats 4000000 in
set_option maxRecDepth 100000 in
theorem tJ0_length_8abf5 {l : Launch} {E : xE} {M : xM} {t : Nat} {Q : Int32 → xM → Prop} (h_t : xStp t) (h : wJ0_length_8abf5 M t Q) : Ct l E mJ0_length_8abf5 [.ref t] M (xRi Q) := by
  refine Ct_of (by decide +kernel) rfl (Nat.le_of_ble_eq_true rfl) ?_
  unfold wJ0_length_8abf5 at h
  show Gx l E mJ0_length_8abf5 (xRi Q) 0 M [some (.ref t)] []
  refine Gx_run (es := eJ0_length_8abf5_0) (P := [110 ≤ t, t < 119, 130 ≤ (t + 20), (t + 20) < 139]) (M' := M) (L' := [some (.ref t)]) (st' := [.ref t, .int (nI (xsl ((t + 20) - 130)))]) (pc' := 6) kJ0_length_8abf5_0 rfl ⟨h_t.1, h_t.2, (by have := h_t.1; omega), (by have := h_t.2; omega), trivial⟩ rfl ?_
  refine Gx_callTp (As := []) (by decide +kernel) ml_5_335 okJ0_coder_7d493 mvJ0_coder_7d493 rfl (by decide) (Nat.le_of_ble_eq_true rfl) h_t rfl (tJ0_coder_7d493 h_t h) (fun rr M6 qq => ?_)
  obtain ⟨r6, rfl, h⟩ := qq
  show Gx l E mJ0_length_8abf5 _ 9 M6 [some (.ref t)] [.int r6, .int (nI (xsl ((t + 20) - 130)))]
  refine Gx_run (es := eJ0_length_8abf5_9) (P := []) (M' := M6) (L' := [some (.ref t)]) (st' := [.int ((nI (xsl ((t + 20) - 130))) >>> (r6 &&& 31))]) (pc' := 10) kJ0_length_8abf5_9 rfl trivial rfl ?_
  exact Gx_iret (by decide +kernel) rfl rfl ⟨_, rfl, h⟩
def eJ1_indexOf_4cfef_0 : List xI := [(.iload_n 1, 1, 0, 0, 0)]
theorem kJ1_indexOf_4cfef_0 : xcode (xmb mJ1_indexOf_4cfef) (xmo mJ1_indexOf_4cfef) 0 eJ1_indexOf_4cfef_0 = true := by decide +kernel
def eJ1_indexOf_4cfef_9 : List xI := [(.iload_n 2, 1, 0, 0, 0), (.iconst 0, 1, 0, 0, (0))]
theorem kJ1_indexOf_4cfef_9 : xcode (xmb mJ1_indexOf_4cfef) (xmo mJ1_indexOf_4cfef) 9 eJ1_indexOf_4cfef_9 = true := by decide +kernel
def eJ1_indexOf_4cfef_14 : List xI := [(.istore_n 2, 1, 0, 0, 0), (.iload_n 3, 1, 0, 0, 0), (.aload_n 0, 1, 0, 0, 0), (.arraylength, 1, 1, 0, 0)]
theorem kJ1_indexOf_4cfef_14 : xcode (xmb mJ1_indexOf_4cfef) (xmo mJ1_indexOf_4cfef) 14 eJ1_indexOf_4cfef_14 = true := by decide +kernel
def eJ1_indexOf_4cfef_21 : List xI := [(.istore_n 3, 1, 0, 0, 0), (.iload_n 2, 1, 0, 0, 0), (.iload_n 3, 1, 0, 0, 0)]
theorem kJ1_indexOf_4cfef_21 : xcode (xmb mJ1_indexOf_4cfef) (xmo mJ1_indexOf_4cfef) 21 eJ1_indexOf_4cfef_21 = true := by decide +kernel
def eJ1_indexOf_4cfef_29 : List xI := [(.aload_n 0, 1, 0, 0, 0), (.iload_n 1, 1, 0, 0, 0), (.iload_n 2, 1, 0, 0, 0), (.iload_n 3, 1, 0, 0, 0)]
theorem kJ1_indexOf_4cfef_29 : xcode (xmb mJ1_indexOf_4cfef) (xmo mJ1_indexOf_4cfef) 29 eJ1_indexOf_4cfef_29 = true := by decide +kernel
def eJ1_indexOf_4cfef_27 : List xI := [(.iconst (-1), 1, 0, 0, (-1))]
theorem kJ1_indexOf_4cfef_27 : xcode (xmb mJ1_indexOf_4cfef) (xmo mJ1_indexOf_4cfef) 27 eJ1_indexOf_4cfef_27 = true := by decide +kernel
def eJ1_indexOf_4cfef_7 : List xI := [(.iconst (-1), 1, 0, 0, (-1))]
theorem kJ1_indexOf_4cfef_7 : xcode (xmb mJ1_indexOf_4cfef) (xmo mJ1_indexOf_4cfef) 7 eJ1_indexOf_4cfef_7 = true := by decide +kernel
def wJ1_indexOf_4cfef (M : xM) (p1 : Nat) (p2 : Int32) (p3 : Int32) (p4 : Int32) (Q : Int32 → xM → Prop) : Prop :=
    wJ1_canEncode_9a6ad M p2 (fun r1 M1 => (((¬ r1 = 0) → (((((if p3 < (0 : Int32) then (0 : Int32) else p3) < (if (nI (xsl (p1 - 130))) < p4 then (nI (xsl (p1 - 130))) else p4)) → (wJ1_indexOfChar_4cfef M1 p1 p2 (if p3 < (0 : Int32) then (0 : Int32) else p3) (if (nI (xsl (p1 - 130))) < p4 then (nI (xsl (p1 - 130))) else p4) (fun r33 M33 => Q r33 M33))) ∧ ((¬ (if p3 < (0 : Int32) then (0 : Int32) else p3) < (if (nI (xsl (p1 - 130))) < p4 then (nI (xsl (p1 - 130))) else p4)) → (Q (-1 : Int32) M1))))) ∧ ((r1 = 0) → (Q (-1 : Int32) M1))))
set_option maxHeartbeats 4000000 in
set_option maxRecDepth 100000 in
theorem tJ1_indexOf_4cfef {l : Launch} {E : xE} {M : xM} {p1 : Nat} {p2 : Int32} {p3 : Int32} {p4 : Int32} {Q : Int32 → xM → Prop} (h_p1 : xByt p1) (h : wJ1_indexOf_4cfef M p1 p2 p3 p4 Q) : Ct l E mJ1_indexOf_4cfef [.ref p1, .int p2, .int p3, .int p4] M (xRi Q) := by
  refine Ct_of (by decide +kernel) rfl (Nat.le_of_ble_eq_true rfl) ?_
  unfold wJ1_indexOf_4cfef at h
  show Gx l E mJ1_indexOf_4cfef (xRi Q) 0 M [some (.ref p1), some (.int p2), some (.int p3), some (.int p4)] []
  refine Gx_run (es := eJ1_indexOf_4cfef_0) (P := []) (M' := M) (L' := [some (.ref p1), some (.int p2), some (.int p3), some (.int p4)]) (st' := [.int p2]) (pc' := 1) kJ1_indexOf_4cfef_0 rfl trivial rfl ?_
  refine Gx_callS (As := [.int p2]) (by decide +kernel) ml_6_88 okJ1_canEncode_9a6ad mvJ1_canEncode_9a6ad rfl (by decide) (Nat.le_of_ble_eq_true rfl) (tJ1_canEncode_9a6ad h) (fun rr M1 qq => ?_)
  obtain ⟨r1, rfl, h⟩ := qq
  show Gx l E mJ1_indexOf_4cfef _ 4 M1 [some (.ref p1), some (.int p2), some (.int p3), some (.int p4)] [.int r1]
  refine Gx_if_ne (off := 5) (tgt := 9) (by decide +kernel) (by decide) (fun z => ?_) (fun z => ?_)
  · have h := h.1 z
    refine Gx_run (es := eJ1_indexOf_4cfef_9) (P := []) (M' := M1) (L' := [some (.ref p1), some (.int p2), some (.int p3), some (.int p4)]) (st' := [.int (0 : Int32), .int p3]) (pc' := 11) kJ1_indexOf_4cfef_9 rfl trivial rfl ?_
    refine Gx_mmax (by decide +kernel) ml_6_92 (by decide) (Nat.le_of_ble_eq_true rfl) ?_
    refine Gx_run (es := eJ1_indexOf_4cfef_14) (P := [130 ≤ p1, p1 < 139]) (M' := M1) (L' := [some (.ref p1), some (.int p2), some (.int (if p3 < (0 : Int32) then (0 : Int32) else p3)), some (.int p4)]) (st' := [.int (nI (xsl (p1 - 130))), .int p4]) (pc' := 18) kJ1_indexOf_4cfef_14 rfl ⟨h_p1.1, h_p1.2, trivial⟩ rfl ?_
    refine Gx_mmin (by decide +kernel) ml_6_38 (by decide) (Nat.le_of_ble_eq_true rfl) ?_
    refine Gx_run (es := eJ1_indexOf_4cfef_21) (P := []) (M' := M1) (L' := [some (.ref p1), some (.int p2), some (.int (if p3 < (0 : Int32) then (0 : Int32) else p3)), some (.int (if (nI (xsl (p1 - 130))) < p4 then (nI (xsl (p1 - 130))) else p4))]) (st' := [.int (if (nI (xsl (p1 - 130))) < p4 then (nI (xsl (p1 - 130))) else p4), .int (if p3 < (0 : Int32) then (0 : Int32) else p3)]) (pc' := 24) kJ1_indexOf_4cfef_21 rfl trivial rfl ?_
    refine Gx_icmp_lt (off := 5) (tgt := 29) (by decide +kernel) (by decide) (fun z => ?_) (fun z => ?_)
    · have h := h.1 z
      refine Gx_run (es := eJ1_indexOf_4cfef_29) (P := []) (M' := M1) (L' := [some (.ref p1), some (.int p2), some (.int (if p3 < (0 : Int32) then (0 : Int32) else p3)), some (.int (if (nI (xsl (p1 - 130))) < p4 then (nI (xsl (p1 - 130))) else p4))]) (st' := [.int (if (nI (xsl (p1 - 130))) < p4 then (nI (xsl (p1 - 130))) else p4), .int (if p3 < (0 : Int32) then (0 : Int32) else p3), .int p2, .ref p1]) (pc' := 33) kJ1_indexOf_4cfef_29 rfl trivial rfl ?_
      refine Gx_callS (As := [.ref p1, .int p2, .int (if p3 < (0 : Int32) then (0 : Int32) else p3), .int (if (nI (xsl (p1 - 130))) < p4 then (nI (xsl (p1 - 130))) else p4)]) (by decide +kernel) ml_6_95 okJ1_indexOfChar_4cfef mvJ1_indexOfChar_4cfef rfl (by decide) (Nat.le_of_ble_eq_true rfl) (tJ1_indexOfChar_4cfef h_p1 h) (fun rr M33 qq => ?_)
      obtain ⟨r33, rfl, h⟩ := qq
      show Gx l E mJ1_indexOf_4cfef _ 36 M33 [some (.ref p1), some (.int p2), some (.int (if p3 < (0 : Int32) then (0 : Int32) else p3)), some (.int (if (nI (xsl (p1 - 130))) < p4 then (nI (xsl (p1 - 130))) else p4))] [.int r33]
      exact Gx_iret (by decide +kernel) rfl rfl ⟨_, rfl, h⟩
    · have h := h.2 z
      refine Gx_run (es := eJ1_indexOf_4cfef_27) (P := []) (M' := M1) (L' := [some (.ref p1), some (.int p2), some (.int (if p3 < (0 : Int32) then (0 : Int32) else p3)), some (.int (if (nI (xsl (p1 - 130))) < p4 then (nI (xsl (p1 - 130))) else p4))]) (st' := [.int (-1 : Int32)]) (pc' := 28) kJ1_indexOf_4cfef_27 rfl trivial rfl ?_
      exact Gx_iret (by decide +kernel) rfl rfl ⟨_, rfl, h⟩
  · have h := h.2 z
    refine Gx_run (es := eJ1_indexOf_4cfef_7) (P := []) (M' := M1) (L' := [some (.ref p1), some (.int p2), some (.int p3), some (.int p4)]) (st' := [.int (-1 : Int32)]) (pc' := 8) kJ1_indexOf_4cfef_7 rfl trivial rfl ?_
    exact Gx_iret (by decide +kernel) rfl rfl ⟨_, rfl, h⟩
def eX0_cutOff_0 : List xI := [(.aload_n 0, 1, 0, 0, 0), (.getfield 12, 3, 0, 0, 0), (.iload_n 1, 1, 0, 0, 0)]
theorem kX0_cutOff_0 : xcode (xmb mX0_cutOff) (xmo mX0_cutOff) 0 eX0_cutOff_0 = true := by decide +kernel
def eX0_cutOff_8 : List xI := [(.istore_n 2, 1, 0, 0, 0), (.iload_n 2, 1, 0, 0, 0), (.bipush (-9), 2, 0, 0, (-9))]
theorem kX0_cutOff_8 : xcode (xmb mX0_cutOff) (xmo mX0_cutOff) 8 eX0_cutOff_8 = true := by decide +kernel
def eX0_cutOff_15 : List xI := [(.aload_n 0, 1, 0, 0, 0), (.bipush 9, 2, 0, 0, (9)), (.iload_n 1, 1, 0, 0, 0), (.iload_n 2, 1, 0, 0, 0), (.bipush 6, 2, 0, 0, (6)), (.idiv, 1, 0, 0, 0)]
theorem kX0_cutOff_15 : xcode (xmb mX0_cutOff) (xmo mX0_cutOff) 15 eX0_cutOff_15 = true := by decide +kernel
def eX0_cutOff_29 : List xI := [(.aload_n 0, 1, 0, 0, 0), (.getfield 12, 3, 0, 0, 0), (.getfield 99, 3, 2, 4, 0), (.iload_n 2, 1, 0, 0, 0), (.bipush (-9), 2, 0, 0, (-9)), (.iastore, 1, 0, 0, 0)]
theorem kX0_cutOff_29 : xcode (xmb mX0_cutOff) (xmo mX0_cutOff) 29 eX0_cutOff_29 = true := by decide +kernel
def wX0_cutOff_40 (c : Nat) (p1 : Int32) (Q : xM → Prop) (M : xM) : Prop :=
    Q M
set_option maxHeartbeats 4000000 in
set_option maxRecDepth 100000 in
theorem tX0_cutOff_40 {l : Launch} {E : xE} {c : Nat} {p1 : Int32} {Q : xM → Prop} (h_c : xChk c) (M : xM) (h : wX0_cutOff_40 c p1 Q M ) : Gx l E mX0_cutOff (xRv Q) 40 M [none, none, none] [] := by
  unfold wX0_cutOff_40 at h
  exact Gx_vret (by decide +kernel) rfl ⟨rfl, h⟩
def wX0_cutOff (M : xM) (c : Nat) (p1 : Int32) (Q : xM → Prop) : Prop :=
    wX2_placeOfEntryTo M (c + 1) p1 (fun r5 M5 => (((r5 = (-9 : Int32)) → (wX0_cutOff_40 c p1 Q M5)) ∧ ((¬ r5 = (-9 : Int32)) → (wX0_asks M5 c (9 : Int32) p1 (r5 / (6 : Int32)) (fun r23 M23 => (((r23 = 0) → (wX0_cutOff_40 c p1 Q M23)) ∧ ((¬ r23 = 0) → ((vp_in r5 60) ∧ wX0_cutOff_40 c p1 Q (xup M23 (c + 6) r5.toNatClampNeg (-9 : Int32))))))))))
set_option maxHeartbeats 4000000 in
set_option maxRecDepth 100000 in
theorem tX0_cutOff {l : Launch} {E : xE} {M : xM} {c : Nat} {p1 : Int32} {Q : xM → Prop} (h_c : xChk c) (h : wX0_cutOff M c p1 Q) : Ct l E mX0_cutOff [.ref c, .int p1] M (xRv Q) := by
  refine Ct_of (by decide +kernel) rfl (Nat.le_of_ble_eq_true rfl) ?_
  unfold wX0_cutOff at h
  show Gx l E mX0_cutOff (xRv Q) 0 M [some (.ref c), some (.int p1), none] []
  refine Gx_run (es := eX0_cutOff_0) (P := [xkd c = 0]) (M' := M) (L' := [some (.ref c), some (.int p1), none]) (st' := [.int p1, .ref (c + 1)]) (pc' := 5) kX0_cutOff_0 rfl ⟨(xChk_0 h_c), trivial⟩ rfl ?_
  refine Gx_callV (As := [.int p1]) (by decide +kernel) ml_0_135 okX2_placeOfEntryTo mvX2_placeOfEntryTo rfl (by decide) (Nat.le_of_ble_eq_true rfl) (xChk_1 h_c) rfl rfl (tX2_placeOfEntryTo (xChk_v h_c) h) (fun rr M5 qq => ?_)
  obtain ⟨r5, rfl, h⟩ := qq
  show Gx l E mX0_cutOff _ 8 M5 [some (.ref c), some (.int p1), none] [.int r5]
  refine Gx_run (es := eX0_cutOff_8) (P := []) (M' := M5) (L' := [some (.ref c), some (.int p1), some (.int r5)]) (st' := [.int (-9 : Int32), .int r5]) (pc' := 12) kX0_cutOff_8 rfl trivial rfl ?_
  refine Gx_icmp_eq (off := 28) (tgt := 40) (by decide +kernel) (by decide) (fun z => ?_) (fun z => ?_)
  · have h := h.1 z
    refine Gx_mask [false, false, false] (L' := [none, none, none]) rfl ?_
    exact tX0_cutOff_40 h_c  M5 h
  · have h := h.2 z
    refine Gx_run (es := eX0_cutOff_15) (P := [¬ (6 : Int32) = 0]) (M' := M5) (L' := [some (.ref c), some (.int p1), some (.int r5)]) (st' := [.int (r5 / (6 : Int32)), .int p1, .int (9 : Int32), .ref c]) (pc' := 23) kX0_cutOff_15 rfl ⟨(by decide), trivial⟩ rfl ?_
    refine Gx_callV (As := [.int (9 : Int32), .int p1, .int (r5 / (6 : Int32))]) (by decide +kernel) ml_0_64 okX0_asks mvX0_asks rfl (by decide) (Nat.le_of_ble_eq_true rfl) (xChk_0 h_c) rfl rfl (tX0_asks h_c h) (fun rr M23 qq => ?_)
    obtain ⟨r23, rfl, h⟩ := qq
    show Gx l E mX0_cutOff _ 26 M23 [some (.ref c), some (.int p1), some (.int r5)] [.int r23]
    refine Gx_if_eq (off := 14) (tgt := 40) (by decide +kernel) (by decide) (fun z => ?_) (fun z => ?_)
    · have h := h.1 z
      refine Gx_mask [false, false, false] (L' := [none, none, none]) rfl ?_
      exact tX0_cutOff_40 h_c  M23 h
    · have h := h.2 z
      obtain ⟨g29_0, h⟩ := h
      refine Gx_run (es := eX0_cutOff_29) (P := [xkd c = 0, xkd (c + 1) = 2, xkd (c + 6) = 5, vp_in r5 (xln (c + 6))]) (M' := (xup M23 (c + 6) r5.toNatClampNeg (-9 : Int32))) (L' := [some (.ref c), some (.int p1), some (.int r5)]) (st' := []) (pc' := 40) kX0_cutOff_29 rfl ⟨(xChk_0 h_c), (xChk_1 h_c), (xChk_6 h_c), (by rw [xChk_l6 h_c]; exact g29_0), trivial⟩ rfl ?_
      refine Gx_mask [false, false, false] (L' := [none, none, none]) rfl ?_
      exact tX0_cutOff_40 h_c  (xup M23 (c + 6) r5.toNatClampNeg (-9 : Int32)) h
def eX0_faultOfEntry_0 : List xI := [(.aload_n 0, 1, 0, 0, 0), (.getfield 12, 3, 0, 0, 0), (.getfield 99, 3, 2, 4, 0), (.bipush 6, 2, 0, 0, (6)), (.iload_n 1, 1, 0, 0, 0), (.imul, 1, 0, 0, 0), (.iload_n 2, 1, 0, 0, 0), (.iadd, 1, 0, 0, 0), (.iaload, 1, 0, 0, 0), (.istore 5, 2, 0, 0, 0), (.iload 5, 2, 0, 0, 0), (.bipush 26, 2, 0, 0, (26)), (.idiv, 1, 0, 0, 0), (.istore 6, 2, 0, 0, 0), (.iload_n 2, 1, 0, 0, 0), (.getstatic 106, 3, 1, 0, 0), (.aload_n 0, 1, 0, 0, 0), (.getfield 12, 3, 0, 0, 0), (.getfield 72, 3, 2, 0, 0), (.iload_n 1, 1, 0, 0, 0), (.iaload, 1, 0, 0, 0), (.iaload, 1, 2, 0, 0)]
theorem kX0_faultOfEntry_0 : xcode (xmb mX0_faultOfEntry) (xmo mX0_faultOfEntry) 0 eX0_faultOfEntry_0 = true := by decide +kernel
def eX0_faultOfEntry_42 : List xI := [(.iload 6, 2, 0, 0, 0)]
theorem kX0_faultOfEntry_42 : xcode (xmb mX0_faultOfEntry) (xmo mX0_faultOfEntry) 42 eX0_faultOfEntry_42 = true := by decide +kernel
def eX0_faultOfEntry_60 : List xI := [(.bipush 6, 2, 0, 0, (6))]
theorem kX0_faultOfEntry_60 : xcode (xmb mX0_faultOfEntry) (xmo mX0_faultOfEntry) 60 eX0_faultOfEntry_60 = true := by decide +kernel
def eX0_faultOfEntry_47 : List xI := [(.aload_n 0, 1, 0, 0, 0), (.getfield 12, 3, 0, 0, 0), (.getfield 72, 3, 2, 0, 0), (.iload 6, 2, 0, 0, 0), (.iaload, 1, 0, 0, 0)]
theorem kX0_faultOfEntry_47 : xcode (xmb mX0_faultOfEntry) (xmo mX0_faultOfEntry) 47 eX0_faultOfEntry_47 = true := by decide +kernel
def eX0_faultOfEntry_63 : List xI := [(.iload_n 3, 1, 0, 0, 0), (.iload 5, 2, 0, 0, 0), (.bipush 26, 2, 0, 0, (26)), (.irem, 1, 0, 0, 0), (.ishr, 1, 0, 0, 0), (.iconst 1, 1, 0, 0, (1)), (.iand, 1, 0, 0, 0)]
theorem kX0_faultOfEntry_63 : xcode (xmb mX0_faultOfEntry) (xmo mX0_faultOfEntry) 63 eX0_faultOfEntry_63 = true := by decide +kernel
def eX0_faultOfEntry_78 : List xI := [(.aload_n 0, 1, 0, 0, 0), (.getfield 12, 3, 0, 0, 0), (.iload 6, 2, 0, 0, 0)]
theorem kX0_faultOfEntry_78 : xcode (xmb mX0_faultOfEntry) (xmo mX0_faultOfEntry) 78 eX0_faultOfEntry_78 = true := by decide +kernel
def eX0_faultOfEntry_105 : List xI := [(.iconst 0, 1, 0, 0, (0))]
theorem kX0_faultOfEntry_105 : xcode (xmb mX0_faultOfEntry) (xmo mX0_faultOfEntry) 105 eX0_faultOfEntry_105 = true := by decide +kernel
def eX0_faultOfEntry_90 : List xI := [(.iload 4, 2, 0, 0, 0), (.iload 6, 2, 0, 0, 0), (.ishr, 1, 0, 0, 0), (.iconst 1, 1, 0, 0, (1)), (.iand, 1, 0, 0, 0)]
theorem kX0_faultOfEntry_90 : xcode (xmb mX0_faultOfEntry) (xmo mX0_faultOfEntry) 90 eX0_faultOfEntry_90 = true := by decide +kernel
def eX0_faultOfEntry_100 : List xI := [(.bipush 8, 2, 0, 0, (8))]
theorem kX0_faultOfEntry_100 : xcode (xmb mX0_faultOfEntry) (xmo mX0_faultOfEntry) 100 eX0_faultOfEntry_100 = true := by decide +kernel
def eX0_faultOfEntry_75 : List xI := [(.bipush 7, 2, 0, 0, (7))]
theorem kX0_faultOfEntry_75 : xcode (xmb mX0_faultOfEntry) (xmo mX0_faultOfEntry) 75 eX0_faultOfEntry_75 = true := by decide +kernel
def eX0_faultOfEntry_40 : List xI := [(.iconst 5, 1, 0, 0, (5))]
theorem kX0_faultOfEntry_40 : xcode (xmb mX0_faultOfEntry) (xmo mX0_faultOfEntry) 40 eX0_faultOfEntry_40 = true := by decide +kernel
def wX0_faultOfEntry_60 (c : Nat) (p1 : Int32) (p2 : Int32) (p3 : Int32) (p4 : Int32) (Q : Int32 → xM → Prop) (M : xM) : Prop :=
    Q (6 : Int32) M
set_option maxHeartbeats 4000000 in
set_option maxRecDepth 100000 in
theorem tX0_faultOfEntry_60 {l : Launch} {E : xE} {c : Nat} {p1 : Int32} {p2 : Int32} {p3 : Int32} {p4 : Int32} {Q : Int32 → xM → Prop} (h_c : xChk c) (M : xM) (h : wX0_faultOfEntry_60 c p1 p2 p3 p4 Q M ) : Gx l E mX0_faultOfEntry (xRi Q) 60 M [none, none, none, none, none, none, none] [] := by
  unfold wX0_faultOfEntry_60 at h
  refine Gx_run (es := eX0_faultOfEntry_60) (P := []) (M' := M) (L' := [none, none, none, none, none, none, none]) (st' := [.int (6 : Int32)]) (pc' := 62) kX0_faultOfEntry_60 rfl trivial rfl ?_
  exact Gx_iret (by decide +kernel) rfl rfl ⟨_, rfl, h⟩
def wX0_faultOfEntry_106 (c : Nat) (p1 : Int32) (p2 : Int32) (p3 : Int32) (p4 : Int32) (Q : Int32 → xM → Prop) (M : xM) (s0 : Int32) : Prop :=
    Q s0 M
set_option maxHeartbeats 4000000 in
set_option maxRecDepth 100000 in
theorem tX0_faultOfEntry_106 {l : Launch} {E : xE} {c : Nat} {p1 : Int32} {p2 : Int32} {p3 : Int32} {p4 : Int32} {Q : Int32 → xM → Prop} (h_c : xChk c) (M : xM) (s0 : Int32) (h : wX0_faultOfEntry_106 c p1 p2 p3 p4 Q M s0) : Gx l E mX0_faultOfEntry (xRi Q) 106 M [none, none, none, none, none, none, none] [.int s0] := by
  unfold wX0_faultOfEntry_106 at h
  exact Gx_iret (by decide +kernel) rfl rfl ⟨_, rfl, h⟩
def wX0_faultOfEntry_105 (c : Nat) (p1 : Int32) (p2 : Int32) (p3 : Int32) (p4 : Int32) (Q : Int32 → xM → Prop) (M : xM) : Prop :=
    wX0_faultOfEntry_106 c p1 p2 p3 p4 Q M (0 : Int32)
set_option maxHeartbeats 4000000 in
set_option maxRecDepth 100000 in
theorem tX0_faultOfEntry_105 {l : Launch} {E : xE} {c : Nat} {p1 : Int32} {p2 : Int32} {p3 : Int32} {p4 : Int32} {Q : Int32 → xM → Prop} (h_c : xChk c) (M : xM) (h : wX0_faultOfEntry_105 c p1 p2 p3 p4 Q M ) : Gx l E mX0_faultOfEntry (xRi Q) 105 M [none, none, none, none, none, none, none] [] := by
  unfold wX0_faultOfEntry_105 at h
  refine Gx_run (es := eX0_faultOfEntry_105) (P := []) (M' := M) (L' := [none, none, none, none, none, none, none]) (st' := [.int (0 : Int32)]) (pc' := 106) kX0_faultOfEntry_105 rfl trivial rfl ?_
  refine Gx_mask [false, false, false, false, false, false, false] (L' := [none, none, none, none, none, none, none]) rfl ?_
  exact tX0_faultOfEntry_106 h_c  M (0 : Int32) h
def wX0_faultOfEntry (M : xM) (c : Nat) (p1 : Int32) (p2 : Int32) (p3 : Int32) (p4 : Int32) (Q : Int32 → xM → Prop) : Prop :=
    (vp_in (((6 : Int32) * p1) + p2) 60) ∧ (vp_in p1 10) ∧ (vp_in (M (c + 2) p1.toNatClampNeg) 6) ∧ (((p2 < (xlist (M (c + 2) p1.toNatClampNeg).toNatClampNeg)) → ((((((M (c + 6) (((6 : Int32) * p1) + p2).toNatClampNeg) / (26 : Int32)) = 0) → (wX0_faultOfEntry_60 c p1 p2 p3 p4 Q M)) ∧ ((¬ ((M (c + 6) (((6 : Int32) * p1) + p2).toNatClampNeg) / (26 : Int32)) = 0) → ((vp_in ((M (c + 6) (((6 : Int32) * p1) + p2).toNatClampNeg) / (26 : Int32)) 10) ∧ (((¬ (M (c + 2) ((M (c + 6) (((6 : Int32) * p1) + p2).toNatClampNeg) / (26 : Int32)).toNatClampNeg) = 0) → ((((((p3 >>> (((M (c + 6) (((6 : Int32) * p1) + p2).toNatClampNeg) - (M (c + 6) (((6 : Int32) * p1) + p2).toNatClampNeg) / (26 : Int32) * (26 : Int32)) &&& 31)) &&& (1 : Int32)) = 0) → (wX2_isDirectory M (c + 1) ((M (c + 6) (((6 : Int32) * p1) + p2).toNatClampNeg) / (26 : Int32)) (fun r84 M84 => (((r84 = 0) → (wX0_faultOfEntry_105 c p1 p2 p3 p4 Q M84)) ∧ ((¬ r84 = 0) → ((((((p4 >>> (((M (c + 6) (((6 : Int32) * p1) + p2).toNatClampNeg) / (26 : Int32)) &&& 31)) &&& (1 : Int32)) = 0) → (wX0_faultOfEntry_105 c p1 p2 p3 p4 Q M84)) ∧ ((¬ ((p4 >>> (((M (c + 6) (((6 : Int32) * p1) + p2).toNatClampNeg) / (26 : Int32)) &&& 31)) &&& (1 : Int32)) = 0) → (wX0_faultOfEntry_106 c p1 p2 p3 p4 Q M84 (8 : Int32)))))))))) ∧ ((¬ ((p3 >>> (((M (c + 6) (((6 : Int32) * p1) + p2).toNatClampNeg) - (M (c + 6) (((6 : Int32) * p1) + p2).toNatClampNeg) / (26 : Int32) * (26 : Int32)) &&& 31)) &&& (1 : Int32)) = 0) → (Q (7 : Int32) M))))) ∧ (((M (c + 2) ((M (c + 6) (((6 : Int32) * p1) + p2).toNatClampNeg) / (26 : Int32)).toNatClampNeg) = 0) → (wX0_faultOfEntry_60 c p1 p2 p3 p4 Q M)))))))) ∧ ((¬ p2 < (xlist (M (c + 2) p1.toNatClampNeg).toNatClampNeg)) → (Q (5 : Int32) M)))
set_option maxHeartbeats 4000000 in
set_option maxRecDepth 100000 in
theorem tX0_faultOfEntry {l : Launch} {E : xE} {M : xM} {c : Nat} {p1 : Int32} {p2 : Int32} {p3 : Int32} {p4 : Int32} {Q : Int32 → xM → Prop} (h_c : xChk c) (h : wX0_faultOfEntry M c p1 p2 p3 p4 Q) : Ct l E mX0_faultOfEntry [.ref c, .int p1, .int p2, .int p3, .int p4] M (xRi Q) := by
  refine Ct_of (by decide +kernel) rfl (Nat.le_of_ble_eq_true rfl) ?_
  unfold wX0_faultOfEntry at h
  show Gx l E mX0_faultOfEntry (xRi Q) 0 M [some (.ref c), some (.int p1), some (.int p2), some (.int p3), some (.int p4), none, none] []
  obtain ⟨g0_0, g0_1, g0_2, h⟩ := h
  refine Gx_run (es := eX0_faultOfEntry_0) (P := [xkd c = 0, xkd (c + 1) = 2, xkd (c + 6) = 5, vp_in (((6 : Int32) * p1) + p2) (xln (c + 6)), ¬ (26 : Int32) = 0, xkd c = 0, xkd (c + 1) = 2, xkd (c + 2) = 5, vp_in p1 (xln (c + 2)), 101 = 101, vp_in (M (c + 2) p1.toNatClampNeg) 6]) (M' := M) (L' := [some (.ref c), some (.int p1), some (.int p2), some (.int p3), some (.int p4), some (.int (M (c + 6) (((6 : Int32) * p1) + p2).toNatClampNeg)), some (.int ((M (c + 6) (((6 : Int32) * p1) + p2).toNatClampNeg) / (26 : Int32)))]) (st' := [.int (xlist (M (c + 2) p1.toNatClampNeg).toNatClampNeg), .int p2]) (pc' := 37) kX0_faultOfEntry_0 rfl ⟨(xChk_0 h_c), (xChk_1 h_c), (xChk_6 h_c), (by rw [xChk_l6 h_c]; exact g0_0), (by decide), (xChk_0 h_c), (xChk_1 h_c), (xChk_2 h_c), (by rw [xChk_l2 h_c]; exact g0_1), rfl, g0_2, trivial⟩ rfl ?_
  refine Gx_icmp_lt (off := 5) (tgt := 42) (by decide +kernel) (by decide) (fun z => ?_) (fun z => ?_)
  · have h := h.1 z
    refine Gx_run (es := eX0_faultOfEntry_42) (P := []) (M' := M) (L' := [some (.ref c), some (.int p1), some (.int p2), some (.int p3), some (.int p4), some (.int (M (c + 6) (((6 : Int32) * p1) + p2).toNatClampNeg)), some (.int ((M (c + 6) (((6 : Int32) * p1) + p2).toNatClampNeg) / (26 : Int32)))]) (st' := [.int ((M (c + 6) (((6 : Int32) * p1) + p2).toNatClampNeg) / (26 : Int32))]) (pc' := 44) kX0_faultOfEntry_42 rfl trivial rfl ?_
    refine Gx_if_eq (off := 16) (tgt := 60) (by decide +kernel) (by decide) (fun z => ?_) (fun z => ?_)
    · have h := h.1 z
      refine Gx_mask [false, false, false, false, false, false, false] (L' := [none, none, none, none, none, none, none]) rfl ?_
      exact tX0_faultOfEntry_60 h_c  M h
    · have h := h.2 z
      obtain ⟨g47_0, h⟩ := h
      refine Gx_run (es := eX0_faultOfEntry_47) (P := [xkd c = 0, xkd (c + 1) = 2, xkd (c + 2) = 5, vp_in ((M (c + 6) (((6 : Int32) * p1) + p2).toNatClampNeg) / (26 : Int32)) (xln (c + 2))]) (M' := M) (L' := [some (.ref c), some (.int p1), some (.int p2), some (.int p3), some (.int p4), some (.int (M (c + 6) (((6 : Int32) * p1) + p2).toNatClampNeg)), some (.int ((M (c + 6) (((6 : Int32) * p1) + p2).toNatClampNeg) / (26 : Int32)))]) (st' := [.int (M (c + 2) ((M (c + 6) (((6 : Int32) * p1) + p2).toNatClampNeg) / (26 : Int32)).toNatClampNeg)]) (pc' := 57) kX0_faultOfEntry_47 rfl ⟨(xChk_0 h_c), (xChk_1 h_c), (xChk_2 h_c), (by rw [xChk_l2 h_c]; exact g47_0), trivial⟩ rfl ?_
      refine Gx_if_ne (off := 6) (tgt := 63) (by decide +kernel) (by decide) (fun z => ?_) (fun z => ?_)
      · have h := h.1 z
        refine Gx_run (es := eX0_faultOfEntry_63) (P := [¬ (26 : Int32) = 0]) (M' := M) (L' := [some (.ref c), some (.int p1), some (.int p2), some (.int p3), some (.int p4), some (.int (M (c + 6) (((6 : Int32) * p1) + p2).toNatClampNeg)), some (.int ((M (c + 6) (((6 : Int32) * p1) + p2).toNatClampNeg) / (26 : Int32)))]) (st' := [.int ((p3 >>> (((M (c + 6) (((6 : Int32) * p1) + p2).toNatClampNeg) - (M (c + 6) (((6 : Int32) * p1) + p2).toNatClampNeg) / (26 : Int32) * (26 : Int32)) &&& 31)) &&& (1 : Int32))]) (pc' := 72) kX0_faultOfEntry_63 rfl ⟨(by decide), trivial⟩ rfl ?_
        refine Gx_if_eq (off := 6) (tgt := 78) (by decide +kernel) (by decide) (fun z => ?_) (fun z => ?_)
        · have h := h.1 z
          refine Gx_run (es := eX0_faultOfEntry_78) (P := [xkd c = 0]) (M' := M) (L' := [some (.ref c), some (.int p1), some (.int p2), some (.int p3), some (.int p4), some (.int (M (c + 6) (((6 : Int32) * p1) + p2).toNatClampNeg)), some (.int ((M (c + 6) (((6 : Int32) * p1) + p2).toNatClampNeg) / (26 : Int32)))]) (st' := [.int ((M (c + 6) (((6 : Int32) * p1) + p2).toNatClampNeg) / (26 : Int32)), .ref (c + 1)]) (pc' := 84) kX0_faultOfEntry_78 rfl ⟨(xChk_0 h_c), trivial⟩ rfl ?_
          refine Gx_callV (As := [.int ((M (c + 6) (((6 : Int32) * p1) + p2).toNatClampNeg) / (26 : Int32))]) (by decide +kernel) ml_0_60 okX2_isDirectory mvX2_isDirectory rfl (by decide) (Nat.le_of_ble_eq_true rfl) (xChk_1 h_c) rfl rfl (tX2_isDirectory (xChk_v h_c) h) (fun rr M84 qq => ?_)
          obtain ⟨r84, rfl, h⟩ := qq
          show Gx l E mX0_faultOfEntry _ 87 M84 [some (.ref c), some (.int p1), some (.int p2), some (.int p3), some (.int p4), some (.int (M (c + 6) (((6 : Int32) * p1) + p2).toNatClampNeg)), some (.int ((M (c + 6) (((6 : Int32) * p1) + p2).toNatClampNeg) / (26 : Int32)))] [.int r84]
          refine Gx_if_eq (off := 18) (tgt := 105) (by decide +kernel) (by decide) (fun z => ?_) (fun z => ?_)
          · have h := h.1 z
            refine Gx_mask [false, false, false, false, false, false, false] (L' := [none, none, none, none, none, none, none]) rfl ?_
            exact tX0_faultOfEntry_105 h_c  M84 h
          · have h := h.2 z
            refine Gx_run (es := eX0_faultOfEntry_90) (P := []) (M' := M84) (L' := [some (.ref c), some (.int p1), some (.int p2), some (.int p3), some (.int p4), some (.int (M (c + 6) (((6 : Int32) * p1) + p2).toNatClampNeg)), some (.int ((M (c + 6) (((6 : Int32) * p1) + p2).toNatClampNeg) / (26 : Int32)))]) (st' := [.int ((p4 >>> (((M (c + 6) (((6 : Int32) * p1) + p2).toNatClampNeg) / (26 : Int32)) &&& 31)) &&& (1 : Int32))]) (pc' := 97) kX0_faultOfEntry_90 rfl trivial rfl ?_
            refine Gx_if_eq (off := 8) (tgt := 105) (by decide +kernel) (by decide) (fun z => ?_) (fun z => ?_)
            · have h := h.1 z
              refine Gx_mask [false, false, false, false, false, false, false] (L' := [none, none, none, none, none, none, none]) rfl ?_
              exact tX0_faultOfEntry_105 h_c  M84 h
            · have h := h.2 z
              refine Gx_run (es := eX0_faultOfEntry_100) (P := []) (M' := M84) (L' := [some (.ref c), some (.int p1), some (.int p2), some (.int p3), some (.int p4), some (.int (M (c + 6) (((6 : Int32) * p1) + p2).toNatClampNeg)), some (.int ((M (c + 6) (((6 : Int32) * p1) + p2).toNatClampNeg) / (26 : Int32)))]) (st' := [.int (8 : Int32)]) (pc' := 102) kX0_faultOfEntry_100 rfl trivial rfl ?_
              refine Gx_goto (off := 4) (tgt := 106) (by decide +kernel) (by decide) ?_
              refine Gx_mask [false, false, false, false, false, false, false] (L' := [none, none, none, none, none, none, none]) rfl ?_
              exact tX0_faultOfEntry_106 h_c  M84 (8 : Int32) h
        · have h := h.2 z
          refine Gx_run (es := eX0_faultOfEntry_75) (P := []) (M' := M) (L' := [some (.ref c), some (.int p1), some (.int p2), some (.int p3), some (.int p4), some (.int (M (c + 6) (((6 : Int32) * p1) + p2).toNatClampNeg)), some (.int ((M (c + 6) (((6 : Int32) * p1) + p2).toNatClampNeg) / (26 : Int32)))]) (st' := [.int (7 : Int32)]) (pc' := 77) kX0_faultOfEntry_75 rfl trivial rfl ?_
          exact Gx_iret (by decide +kernel) rfl rfl ⟨_, rfl, h⟩
      · have h := h.2 z
        refine Gx_mask [false, false, false, false, false, false, false] (L' := [none, none, none, none, none, none, none]) rfl ?_
        exact tX0_faultOfEntry_60 h_c  M h
  · have h := h.2 z
    refine Gx_run (es := eX0_faultOfEntry_40) (P := []) (M' := M) (L' := [some (.ref c), some (.int p1), some (.int p2), some (.int p3), some (.int p4), some (.int (M (c + 6) (((6 : Int32) * p1) + p2).toNatClampNeg)), some (.int ((M (c + 6) (((6 : Int32) * p1) + p2).toNatClampNeg) / (26 : Int32)))]) (st' := [.int (5 : Int32)]) (pc' := 41) kX0_faultOfEntry_40 rfl trivial rfl ?_
    exact Gx_iret (by decide +kernel) rfl rfl ⟨_, rfl, h⟩
def eX0_mendMaps_0 : List xI := [(.aload_n 0, 1, 0, 0, 0), (.getfield 12, 3, 0, 0, 0), (.getfield 161, 3, 2, 6, 0), (.aload_n 0, 1, 0, 0, 0), (.getfield 12, 3, 0, 0, 0)]
theorem kX0_mendMaps_0 : xcode (xmb mX0_mendMaps) (xmo mX0_mendMaps) 0 eX0_mendMaps_0 = true := by decide +kernel
def eX0_mendMaps_14 : List xI := [(.ixor, 1, 0, 0, 0), (.istore_n 1, 1, 0, 0, 0), (.iconst 0, 1, 0, 0, (0)), (.istore_n 2, 1, 0, 0, 0)]
theorem kX0_mendMaps_14 : xcode (xmb mX0_mendMaps) (xmo mX0_mendMaps) 14 eX0_mendMaps_14 = true := by decide +kernel
def eX0_mendMaps_18 : List xI := [(.iload_n 2, 1, 0, 0, 0), (.bipush 24, 2, 0, 0, (24))]
theorem kX0_mendMaps_18 : xcode (xmb mX0_mendMaps) (xmo mX0_mendMaps) 18 eX0_mendMaps_18 = true := by decide +kernel
def eX0_mendMaps_64 : List xI := [(.aload_n 0, 1, 0, 0, 0), (.getfield 12, 3, 0, 0, 0), (.getfield 167, 3, 2, 7, 0), (.aload_n 0, 1, 0, 0, 0), (.getfield 12, 3, 0, 0, 0)]
theorem kX0_mendMaps_64 : xcode (xmb mX0_mendMaps) (xmo mX0_mendMaps) 64 eX0_mendMaps_64 = true := by decide +kernel
def eX0_mendMaps_78 : List xI := [(.ixor, 1, 0, 0, 0), (.istore_n 2, 1, 0, 0, 0), (.iconst 0, 1, 0, 0, (0)), (.istore_n 3, 1, 0, 0, 0)]
theorem kX0_mendMaps_78 : xcode (xmb mX0_mendMaps) (xmo mX0_mendMaps) 78 eX0_mendMaps_78 = true := by decide +kernel
def eX0_mendMaps_82 : List xI := [(.iload_n 3, 1, 0, 0, 0), (.bipush 10, 2, 0, 0, (10))]
theorem kX0_mendMaps_82 : xcode (xmb mX0_mendMaps) (xmo mX0_mendMaps) 82 eX0_mendMaps_82 = true := by decide +kernel
def eX0_mendMaps_88 : List xI := [(.iload_n 2, 1, 0, 0, 0), (.iload_n 3, 1, 0, 0, 0), (.ishr, 1, 0, 0, 0), (.iconst 1, 1, 0, 0, (1)), (.iand, 1, 0, 0, 0)]
theorem kX0_mendMaps_88 : xcode (xmb mX0_mendMaps) (xmo mX0_mendMaps) 88 eX0_mendMaps_88 = true := by decide +kernel
def eX0_mendMaps_122 : List xI := [(.iinc 3 1, 3, 0, 0, (1))]
theorem kX0_mendMaps_122 : xcode (xmb mX0_mendMaps) (xmo mX0_mendMaps) 122 eX0_mendMaps_122 = true := by decide +kernel
def eX0_mendMaps_96 : List xI := [(.aload_n 0, 1, 0, 0, 0), (.bipush 16, 2, 0, 0, (16)), (.iload_n 3, 1, 0, 0, 0), (.iconst 0, 1, 0, 0, (0))]
theorem kX0_mendMaps_96 : xcode (xmb mX0_mendMaps) (xmo mX0_mendMaps) 96 eX0_mendMaps_96 = true := by decide +kernel
def eX0_mendMaps_107 : List xI := [(.aload_n 0, 1, 0, 0, 0), (.getfield 12, 3, 0, 0, 0), (.dup, 1, 0, 0, 0), (.getfield 167, 3, 2, 7, 0), (.iconst 1, 1, 0, 0, (1)), (.iload_n 3, 1, 0, 0, 0), (.ishl, 1, 0, 0, 0), (.ixor, 1, 0, 0, 0), (.putfield 167, 3, 2, 7, 0)]
theorem kX0_mendMaps_107 : xcode (xmb mX0_mendMaps) (xmo mX0_mendMaps) 107 eX0_mendMaps_107 = true := by decide +kernel
def eX0_mendMaps_24 : List xI := [(.iload_n 1, 1, 0, 0, 0), (.iload_n 2, 1, 0, 0, 0), (.ishr, 1, 0, 0, 0), (.iconst 1, 1, 0, 0, (1)), (.iand, 1, 0, 0, 0)]
theorem kX0_mendMaps_24 : xcode (xmb mX0_mendMaps) (xmo mX0_mendMaps) 24 eX0_mendMaps_24 = true := by decide +kernel
def eX0_mendMaps_58 : List xI := [(.iinc 2 1, 3, 0, 0, (1))]
theorem kX0_mendMaps_58 : xcode (xmb mX0_mendMaps) (xmo mX0_mendMaps) 58 eX0_mendMaps_58 = true := by decide +kernel
def eX0_mendMaps_32 : List xI := [(.aload_n 0, 1, 0, 0, 0), (.bipush 15, 2, 0, 0, (15)), (.iload_n 2, 1, 0, 0, 0), (.iconst 0, 1, 0, 0, (0))]
theorem kX0_mendMaps_32 : xcode (xmb mX0_mendMaps) (xmo mX0_mendMaps) 32 eX0_mendMaps_32 = true := by decide +kernel
def eX0_mendMaps_43 : List xI := [(.aload_n 0, 1, 0, 0, 0), (.getfield 12, 3, 0, 0, 0), (.dup, 1, 0, 0, 0), (.getfield 161, 3, 2, 6, 0), (.iconst 1, 1, 0, 0, (1)), (.iload_n 2, 1, 0, 0, 0), (.ishl, 1, 0, 0, 0), (.ixor, 1, 0, 0, 0), (.putfield 161, 3, 2, 6, 0)]
theorem kX0_mendMaps_43 : xcode (xmb mX0_mendMaps) (xmo mX0_mendMaps) 43 eX0_mendMaps_43 = true := by decide +kernel
def wX0_mendMaps_122 (c : Nat) (Q : xM → Prop) (k82 : xM → Int32 → Int32 → Prop) (M : xM) (a2 : Int32) (a3 : Int32) : Prop :=
    k82 M a2 (a3 + (1 : Int32))
set_option maxHeartbeats 4000000 in
set_option maxRecDepth 100000 in
theorem tX0_mendMaps_122 {l : Launch} {E : xE} {c : Nat} {Q : xM → Prop} {k82 : xM → Int32 → Int32 → Prop} (h_c : xChk c) (hk82 : ∀ (M : xM) (a2 : Int32) (a3 : Int32), k82 M a2 a3 → Gx l E mX0_mendMaps (xRv Q) 82 M [some (.ref c), none, some (.int a2), some (.int a3)] []) (M : xM) (a2 : Int32) (a3 : Int32) (h : wX0_mendMaps_122 c Q k82 M a2 a3) : Gx l E mX0_mendMaps (xRv Q) 122 M [some (.ref c), none, some (.int a2), some (.int a3)] [] := by
  unfold wX0_mendMaps_122 at h
  refine Gx_run (es := eX0_mendMaps_122) (P := []) (M' := M) (L' := [some (.ref c), none, some (.int a2), some (.int (a3 + (1 : Int32)))]) (st' := []) (pc' := 125) kX0_mendMaps_122 rfl trivial rfl ?_
  refine Gx_goto (off := -43) (tgt := 82) (by decide +kernel) (by decide) ?_
  refine Gx_mask [true, false, true, true] (L' := [some (.ref c), none, some (.int a2), some (.int (a3 + (1 : Int32)))]) rfl ?_
  exact hk82 M a2 (a3 + (1 : Int32)) h
def lX0_mendMaps_82 (c : Nat) (Q : xM → Prop) : Nat → xM → Int32 → Int32 → Prop
  | 0 => fun _ _ _ => False
  | n + 1 => let k82 := lX0_mendMaps_82 c Q n; fun M a2 a3 =>
    ((((10 : Int32) ≤ a3) → (Q M)) ∧ ((¬ (10 : Int32) ≤ a3) → ((((((a2 >>> (a3 &&& 31)) &&& (1 : Int32)) = 0) → (wX0_mendMaps_122 c Q k82 M a2 a3)) ∧ ((¬ ((a2 >>> (a3 &&& 31)) &&& (1 : Int32)) = 0) → (wX0_asks M c (16 : Int32) a3 (0 : Int32) (fun r101 M101 => (((r101 = 0) → (wX0_mendMaps_122 c Q k82 M101 a2 a3)) ∧ ((¬ r101 = 0) → (wX0_mendMaps_122 c Q k82 (xup M101 (c + 1) 7 ((M101 (c + 1) 7) ^^^ ((1 : Int32) <<< (a3 &&& 31)))) a2 a3))))))))))
set_option maxHeartbeats 4000000 in
set_option maxRecDepth 100000 in
theorem tX0_mendMaps_82 {l : Launch} {E : xE} {c : Nat} {Q : xM → Prop} (h_c : xChk c) (n : Nat) : ∀ (M : xM) (a2 : Int32) (a3 : Int32), lX0_mendMaps_82 c Q n M a2 a3 → Gx l E mX0_mendMaps (xRv Q) 82 M [some (.ref c), none, some (.int a2), some (.int a3)] [] := by
  induction n with
  | zero => intro M a2 a3 h; exact h.elim
  | succ n hk82 =>
      intro M a2 a3 h
      unfold lX0_mendMaps_82 at h
      dsimp only at h
      refine Gx_run (es := eX0_mendMaps_82) (P := []) (M' := M) (L' := [some (.ref c), none, some (.int a2), some (.int a3)]) (st' := [.int (10 : Int32), .int a3]) (pc' := 85) kX0_mendMaps_82 rfl trivial rfl ?_
      refine Gx_icmp_ge (off := 43) (tgt := 128) (by decide +kernel) (by decide) (fun z => ?_) (fun z => ?_)
      · have h := h.1 z
        exact Gx_vret (by decide +kernel) rfl ⟨rfl, h⟩
      · have h := h.2 z
        refine Gx_run (es := eX0_mendMaps_88) (P := []) (M' := M) (L' := [some (.ref c), none, some (.int a2), some (.int a3)]) (st' := [.int ((a2 >>> (a3 &&& 31)) &&& (1 : Int32))]) (pc' := 93) kX0_mendMaps_88 rfl trivial rfl ?_
        refine Gx_if_eq (off := 29) (tgt := 122) (by decide +kernel) (by decide) (fun z => ?_) (fun z => ?_)
        · have h := h.1 z
          refine Gx_mask [true, false, true, true] (L' := [some (.ref c), none, some (.int a2), some (.int a3)]) rfl ?_
          exact tX0_mendMaps_122 h_c  hk82 M a2 a3 h
        · have h := h.2 z
          refine Gx_run (es := eX0_mendMaps_96) (P := []) (M' := M) (L' := [some (.ref c), none, some (.int a2), some (.int a3)]) (st' := [.int (0 : Int32), .int a3, .int (16 : Int32), .ref c]) (pc' := 101) kX0_mendMaps_96 rfl trivial rfl ?_
          refine Gx_callV (As := [.int (16 : Int32), .int a3, .int (0 : Int32)]) (by decide +kernel) ml_0_64 okX0_asks mvX0_asks rfl (by decide) (Nat.le_of_ble_eq_true rfl) (xChk_0 h_c) rfl rfl (tX0_asks h_c h) (fun rr M101 qq => ?_)
          obtain ⟨r101, rfl, h⟩ := qq
          show Gx l E mX0_mendMaps _ 104 M101 [some (.ref c), none, some (.int a2), some (.int a3)] [.int r101]
          refine Gx_if_eq (off := 18) (tgt := 122) (by decide +kernel) (by decide) (fun z => ?_) (fun z => ?_)
          · have h := h.1 z
            refine Gx_mask [true, false, true, true] (L' := [some (.ref c), none, some (.int a2), some (.int a3)]) rfl ?_
            exact tX0_mendMaps_122 h_c  hk82 M101 a2 a3 h
          · have h := h.2 z
            refine Gx_run (es := eX0_mendMaps_107) (P := [xkd c = 0, xkd (c + 1) = 2, xkd (c + 1) = 2]) (M' := (xup M101 (c + 1) 7 ((M101 (c + 1) 7) ^^^ ((1 : Int32) <<< (a3 &&& 31))))) (L' := [some (.ref c), none, some (.int a2), some (.int a3)]) (st' := []) (pc' := 122) kX0_mendMaps_107 rfl ⟨(xChk_0 h_c), (xChk_1 h_c), (xChk_1 h_c), trivial⟩ rfl ?_
            refine Gx_mask [true, false, true, true] (L' := [some (.ref c), none, some (.int a2), some (.int a3)]) rfl ?_
            exact tX0_mendMaps_122 h_c  hk82 (xup M101 (c + 1) 7 ((M101 (c + 1) 7) ^^^ ((1 : Int32) <<< (a3 &&& 31)))) a2 a3 h
def wX0_mendMaps_58 (c : Nat) (Q : xM → Prop) (k18 : xM → Int32 → Int32 → Prop) (M : xM) (a1 : Int32) (a2 : Int32) : Prop :=
    k18 M a1 (a2 + (1 : Int32))
set_option maxHeartbeats 4000000 in
set_option maxRecDepth 100000 in
theorem tX0_mendMaps_58 {l : Launch} {E : xE} {c : Nat} {Q : xM → Prop} {k18 : xM → Int32 → Int32 → Prop} (h_c : xChk c) (hk18 : ∀ (M : xM) (a1 : Int32) (a2 : Int32), k18 M a1 a2 → Gx l E mX0_mendMaps (xRv Q) 18 M [some (.ref c), some (.int a1), some (.int a2), none] []) (M : xM) (a1 : Int32) (a2 : Int32) (h : wX0_mendMaps_58 c Q k18 M a1 a2) : Gx l E mX0_mendMaps (xRv Q) 58 M [some (.ref c), some (.int a1), some (.int a2), none] [] := by
  unfold wX0_mendMaps_58 at h
  refine Gx_run (es := eX0_mendMaps_58) (P := []) (M' := M) (L' := [some (.ref c), some (.int a1), some (.int (a2 + (1 : Int32))), none]) (st' := []) (pc' := 61) kX0_mendMaps_58 rfl trivial rfl ?_
  refine Gx_goto (off := -43) (tgt := 18) (by decide +kernel) (by decide) ?_
  refine Gx_mask [true, true, true, false] (L' := [some (.ref c), some (.int a1), some (.int (a2 + (1 : Int32))), none]) rfl ?_
  exact hk18 M a1 (a2 + (1 : Int32)) h
def lX0_mendMaps_18 (c : Nat) (Q : xM → Prop) : Nat → xM → Int32 → Int32 → Prop
  | 0 => fun _ _ _ => False
  | n + 1 => let k18 := lX0_mendMaps_18 c Q n; fun M a1 a2 =>
    ((((24 : Int32) ≤ a2) → (wX2_inodesInUse M (c + 1) (fun r75 M75 => (∃ n : Nat, lX0_mendMaps_82 c Q n M75 ((M (c + 1) 7) ^^^ r75) (0 : Int32))))) ∧ ((¬ (24 : Int32) ≤ a2) → ((((((a1 >>> (a2 &&& 31)) &&& (1 : Int32)) = 0) → (wX0_mendMaps_58 c Q k18 M a1 a2)) ∧ ((¬ ((a1 >>> (a2 &&& 31)) &&& (1 : Int32)) = 0) → (wX0_asks M c (15 : Int32) a2 (0 : Int32) (fun r37 M37 => (((r37 = 0) → (wX0_mendMaps_58 c Q k18 M37 a1 a2)) ∧ ((¬ r37 = 0) → (wX0_mendMaps_58 c Q k18 (xup M37 (c + 1) 6 ((M37 (c + 1) 6) ^^^ ((1 : Int32) <<< (a2 &&& 31)))) a1 a2))))))))))
set_option maxHeartbeats 4000000 in
set_option maxRecDepth 100000 in
theorem tX0_mendMaps_18 {l : Launch} {E : xE} {c : Nat} {Q : xM → Prop} (h_c : xChk c) (n : Nat) : ∀ (M : xM) (a1 : Int32) (a2 : Int32), lX0_mendMaps_18 c Q n M a1 a2 → Gx l E mX0_mendMaps (xRv Q) 18 M [some (.ref c), some (.int a1), some (.int a2), none] [] := by
  induction n with
  | zero => intro M a1 a2 h; exact h.elim
  | succ n hk18 =>
      intro M a1 a2 h
      unfold lX0_mendMaps_18 at h
      dsimp only at h
      refine Gx_run (es := eX0_mendMaps_18) (P := []) (M' := M) (L' := [some (.ref c), some (.int a1), some (.int a2), none]) (st' := [.int (24 : Int32), .int a2]) (pc' := 21) kX0_mendMaps_18 rfl trivial rfl ?_
      refine Gx_icmp_ge (off := 43) (tgt := 64) (by decide +kernel) (by decide) (fun z => ?_) (fun z => ?_)
      · have h := h.1 z
        refine Gx_run (es := eX0_mendMaps_64) (P := [xkd c = 0, xkd (c + 1) = 2, xkd c = 0]) (M' := M) (L' := [some (.ref c), some (.int a1), some (.int a2), none]) (st' := [.ref (c + 1), .int (M (c + 1) 7)]) (pc' := 75) kX0_mendMaps_64 rfl ⟨(xChk_0 h_c), (xChk_1 h_c), (xChk_0 h_c), trivial⟩ rfl ?_
        refine Gx_callV (As := []) (by decide +kernel) ml_0_170 okX2_inodesInUse mvX2_inodesInUse rfl (by decide) (Nat.le_of_ble_eq_true rfl) (xChk_1 h_c) rfl rfl (tX2_inodesInUse (xChk_v h_c) h) (fun rr M75 qq => ?_)
        obtain ⟨r75, rfl, h⟩ := qq
        show Gx l E mX0_mendMaps _ 78 M75 [some (.ref c), some (.int a1), some (.int a2), none] [.int r75, .int (M (c + 1) 7)]
        refine Gx_run (es := eX0_mendMaps_78) (P := []) (M' := M75) (L' := [some (.ref c), some (.int a1), some (.int ((M (c + 1) 7) ^^^ r75)), some (.int (0 : Int32))]) (st' := []) (pc' := 82) kX0_mendMaps_78 rfl trivial rfl ?_
        refine Gx_mask [true, false, true, true] (L' := [some (.ref c), none, some (.int ((M (c + 1) 7) ^^^ r75)), some (.int (0 : Int32))]) rfl ?_
        obtain ⟨n, h⟩ := h
        exact tX0_mendMaps_82 h_c  n M75 ((M (c + 1) 7) ^^^ r75) (0 : Int32) h
      · have h := h.2 z
        refine Gx_run (es := eX0_mendMaps_24) (P := []) (M' := M) (L' := [some (.ref c), some (.int a1), some (.int a2), none]) (st' := [.int ((a1 >>> (a2 &&& 31)) &&& (1 : Int32))]) (pc' := 29) kX0_mendMaps_24 rfl trivial rfl ?_
        refine Gx_if_eq (off := 29) (tgt := 58) (by decide +kernel) (by decide) (fun z => ?_) (fun z => ?_)
        · have h := h.1 z
          refine Gx_mask [true, true, true, false] (L' := [some (.ref c), some (.int a1), some (.int a2), none]) rfl ?_
          exact tX0_mendMaps_58 h_c  hk18 M a1 a2 h
        · have h := h.2 z
          refine Gx_run (es := eX0_mendMaps_32) (P := []) (M' := M) (L' := [some (.ref c), some (.int a1), some (.int a2), none]) (st' := [.int (0 : Int32), .int a2, .int (15 : Int32), .ref c]) (pc' := 37) kX0_mendMaps_32 rfl trivial rfl ?_
          refine Gx_callV (As := [.int (15 : Int32), .int a2, .int (0 : Int32)]) (by decide +kernel) ml_0_64 okX0_asks mvX0_asks rfl (by decide) (Nat.le_of_ble_eq_true rfl) (xChk_0 h_c) rfl rfl (tX0_asks h_c h) (fun rr M37 qq => ?_)
          obtain ⟨r37, rfl, h⟩ := qq
          show Gx l E mX0_mendMaps _ 40 M37 [some (.ref c), some (.int a1), some (.int a2), none] [.int r37]
          refine Gx_if_eq (off := 18) (tgt := 58) (by decide +kernel) (by decide) (fun z => ?_) (fun z => ?_)
          · have h := h.1 z
            refine Gx_mask [true, true, true, false] (L' := [some (.ref c), some (.int a1), some (.int a2), none]) rfl ?_
            exact tX0_mendMaps_58 h_c  hk18 M37 a1 a2 h
          · have h := h.2 z
            refine Gx_run (es := eX0_mendMaps_43) (P := [xkd c = 0, xkd (c + 1) = 2, xkd (c + 1) = 2]) (M' := (xup M37 (c + 1) 6 ((M37 (c + 1) 6) ^^^ ((1 : Int32) <<< (a2 &&& 31))))) (L' := [some (.ref c), some (.int a1), some (.int a2), none]) (st' := []) (pc' := 58) kX0_mendMaps_43 rfl ⟨(xChk_0 h_c), (xChk_1 h_c), (xChk_1 h_c), trivial⟩ rfl ?_
            refine Gx_mask [true, true, true, false] (L' := [some (.ref c), some (.int a1), some (.int a2), none]) rfl ?_
            exact tX0_mendMaps_58 h_c  hk18 (xup M37 (c + 1) 6 ((M37 (c + 1) 6) ^^^ ((1 : Int32) <<< (a2 &&& 31)))) a1 a2 h
def wX0_mendMaps (M : xM) (c : Nat) (Q : xM → Prop) : Prop :=
    wX2_blocksPointedAt M (c + 1) (fun r11 M11 => (∃ n : Nat, lX0_mendMaps_18 c Q n M11 ((M (c + 1) 6) ^^^ r11) (0 : Int32)))
set_option maxHeartbeats 4000000 in
set_option maxRecDepth 100000 in
theorem tX0_mendMaps {l : Launch} {E : xE} {M : xM} {c : Nat} {Q : xM → Prop} (h_c : xChk c) (h : wX0_mendMaps M c Q) : Ct l E mX0_mendMaps [.ref c] M (xRv Q) := by
  refine Ct_of (by decide +kernel) rfl (Nat.le_of_ble_eq_true rfl) ?_
  unfold wX0_mendMaps at h
  show Gx l E mX0_mendMaps (xRv Q) 0 M [some (.ref c), none, none, none] []
  refine Gx_run (es := eX0_mendMaps_0) (P := [xkd c = 0, xkd (c + 1) = 2, xkd c = 0]) (M' := M) (L' := [some (.ref c), none, none, none]) (st' := [.ref (c + 1), .int (M (c + 1) 6)]) (pc' := 11) kX0_mendMaps_0 rfl ⟨(xChk_0 h_c), (xChk_1 h_c), (xChk_0 h_c), trivial⟩ rfl ?_
  refine Gx_callV (As := []) (by decide +kernel) ml_0_164 okX2_blocksPointedAt mvX2_blocksPointedAt rfl (by decide) (Nat.le_of_ble_eq_true rfl) (xChk_1 h_c) rfl rfl (tX2_blocksPointedAt (xChk_v h_c) h) (fun rr M11 qq => ?_)
  obtain ⟨r11, rfl, h⟩ := qq
  show Gx l E mX0_mendMaps _ 14 M11 [some (.ref c), none, none, none] [.int r11, .int (M (c + 1) 6)]
  refine Gx_run (es := eX0_mendMaps_14) (P := []) (M' := M11) (L' := [some (.ref c), some (.int ((M (c + 1) 6) ^^^ r11)), some (.int (0 : Int32)), none]) (st' := []) (pc' := 18) kX0_mendMaps_14 rfl trivial rfl ?_
  refine Gx_mask [true, true, true, false] (L' := [some (.ref c), some (.int ((M (c + 1) 6) ^^^ r11)), some (.int (0 : Int32)), none]) rfl ?_
  obtain ⟨n, h⟩ := h
  exact tX0_mendMaps_18 h_c  n M11 ((M (c + 1) 6) ^^^ r11) (0 : Int32) h
def eX0_mendParents_0 : List xI := [(.iconst 0, 1, 0, 0, (0)), (.istore_n 1, 1, 0, 0, 0)]
theorem kX0_mendParents_0 : xcode (xmb mX0_mendParents) (xmo mX0_mendParents) 0 eX0_mendParents_0 = true := by decide +kernel
def eX0_mendParents_2 : List xI := [(.iload_n 1, 1, 0, 0, 0), (.bipush 10, 2, 0, 0, (10))]
theorem kX0_mendParents_2 : xcode (xmb mX0_mendParents) (xmo mX0_mendParents) 2 eX0_mendParents_2 = true := by decide +kernel
def eX0_mendParents_8 : List xI := [(.aload_n 0, 1, 0, 0, 0), (.getfield 12, 3, 0, 0, 0), (.iload_n 1, 1, 0, 0, 0)]
theorem kX0_mendParents_8 : xcode (xmb mX0_mendParents) (xmo mX0_mendParents) 8 eX0_mendParents_8 = true := by decide +kernel
def eX0_mendParents_90 : List xI := [(.iinc 1 1, 3, 0, 0, (1))]
theorem kX0_mendParents_90 : xcode (xmb mX0_mendParents) (xmo mX0_mendParents) 90 eX0_mendParents_90 = true := by decide +kernel
def eX0_mendParents_19 : List xI := [(.iload_n 1, 1, 0, 0, 0)]
theorem kX0_mendParents_19 : xcode (xmb mX0_mendParents) (xmo mX0_mendParents) 19 eX0_mendParents_19 = true := by decide +kernel
def eX0_mendParents_27 : List xI := [(.aload_n 0, 1, 0, 0, 0), (.getfield 12, 3, 0, 0, 0), (.iload_n 1, 1, 0, 0, 0)]
theorem kX0_mendParents_27 : xcode (xmb mX0_mendParents) (xmo mX0_mendParents) 27 eX0_mendParents_27 = true := by decide +kernel
def eX0_mendParents_35 : List xI := [(.istore_n 2, 1, 0, 0, 0), (.aload_n 0, 1, 0, 0, 0), (.getfield 12, 3, 0, 0, 0), (.getfield 148, 3, 2, 2, 0), (.iload_n 1, 1, 0, 0, 0), (.iaload, 1, 0, 0, 0), (.istore_n 3, 1, 0, 0, 0), (.iload_n 2, 1, 0, 0, 0), (.bipush (-9), 2, 0, 0, (-9))]
theorem kX0_mendParents_35 : xcode (xmb mX0_mendParents) (xmo mX0_mendParents) 35 eX0_mendParents_35 = true := by decide +kernel
def eX0_mendParents_56 : List xI := [(.iload_n 2, 1, 0, 0, 0), (.bipush 6, 2, 0, 0, (6)), (.idiv, 1, 0, 0, 0)]
theorem kX0_mendParents_56 : xcode (xmb mX0_mendParents) (xmo mX0_mendParents) 56 eX0_mendParents_56 = true := by decide +kernel
def eX0_mendParents_60 : List xI := [(.istore 4, 2, 0, 0, 0), (.iload_n 3, 1, 0, 0, 0), (.iload 4, 2, 0, 0, 0)]
theorem kX0_mendParents_60 : xcode (xmb mX0_mendParents) (xmo mX0_mendParents) 60 eX0_mendParents_60 = true := by decide +kernel
def eX0_mendParents_68 : List xI := [(.aload_n 0, 1, 0, 0, 0), (.bipush 12, 2, 0, 0, (12)), (.iload_n 1, 1, 0, 0, 0), (.iload_n 3, 1, 0, 0, 0)]
theorem kX0_mendParents_68 : xcode (xmb mX0_mendParents) (xmo mX0_mendParents) 68 eX0_mendParents_68 = true := by decide +kernel
def eX0_mendParents_79 : List xI := [(.aload_n 0, 1, 0, 0, 0), (.getfield 12, 3, 0, 0, 0), (.getfield 148, 3, 2, 2, 0), (.iload_n 1, 1, 0, 0, 0), (.iload 4, 2, 0, 0, 0), (.iastore, 1, 0, 0, 0)]
theorem kX0_mendParents_79 : xcode (xmb mX0_mendParents) (xmo mX0_mendParents) 79 eX0_mendParents_79 = true := by decide +kernel
def eX0_mendParents_52 : List xI := [(.iload_n 3, 1, 0, 0, 0)]
theorem kX0_mendParents_52 : xcode (xmb mX0_mendParents) (xmo mX0_mendParents) 52 eX0_mendParents_52 = true := by decide +kernel
def eX0_mendParents_23 : List xI := [(.iconst 0, 1, 0, 0, (0))]
theorem kX0_mendParents_23 : xcode (xmb mX0_mendParents) (xmo mX0_mendParents) 23 eX0_mendParents_23 = true := by decide +kernel
def wX0_mendParents_90 (c : Nat) (Q : xM → Prop) (k2 : xM → Int32 → Prop) (M : xM) (a1 : Int32) : Prop :=
    k2 M (a1 + (1 : Int32))
set_option maxHeartbeats 4000000 in
set_option maxRecDepth 100000 in
theorem tX0_mendParents_90 {l : Launch} {E : xE} {c : Nat} {Q : xM → Prop} {k2 : xM → Int32 → Prop} (h_c : xChk c) (hk2 : ∀ (M : xM) (a1 : Int32), k2 M a1 → Gx l E mX0_mendParents (xRv Q) 2 M [some (.ref c), some (.int a1), none, none, none] []) (M : xM) (a1 : Int32) (h : wX0_mendParents_90 c Q k2 M a1) : Gx l E mX0_mendParents (xRv Q) 90 M [some (.ref c), some (.int a1), none, none, none] [] := by
  unfold wX0_mendParents_90 at h
  refine Gx_run (es := eX0_mendParents_90) (P := []) (M' := M) (L' := [some (.ref c), some (.int (a1 + (1 : Int32))), none, none, none]) (st' := []) (pc' := 93) kX0_mendParents_90 rfl trivial rfl ?_
  refine Gx_goto (off := -91) (tgt := 2) (by decide +kernel) (by decide) ?_
  refine Gx_mask [true, true, false, false, false] (L' := [some (.ref c), some (.int (a1 + (1 : Int32))), none, none, none]) rfl ?_
  exact hk2 M (a1 + (1 : Int32)) h
def wX0_mendParents_60 (c : Nat) (Q : xM → Prop) (k2 : xM → Int32 → Prop) (M : xM) (a1 : Int32) (a3 : Int32) (s0 : Int32) : Prop :=
    (((a3 = s0) → (wX0_mendParents_90 c Q k2 M a1)) ∧ ((¬ a3 = s0) → (wX0_asks M c (12 : Int32) a1 a3 (fun r73 M73 => (((r73 = 0) → (wX0_mendParents_90 c Q k2 M73 a1)) ∧ ((¬ r73 = 0) → ((vp_in a1 10) ∧ wX0_mendParents_90 c Q k2 (xup M73 (c + 4) a1.toNatClampNeg s0) a1)))))))
set_option maxHeartbeats 4000000 in
set_option maxRecDepth 100000 in
theorem tX0_mendParents_60 {l : Launch} {E : xE} {c : Nat} {Q : xM → Prop} {k2 : xM → Int32 → Prop} (h_c : xChk c) (hk2 : ∀ (M : xM) (a1 : Int32), k2 M a1 → Gx l E mX0_mendParents (xRv Q) 2 M [some (.ref c), some (.int a1), none, none, none] []) (M : xM) (a1 : Int32) (a3 : Int32) (s0 : Int32) (h : wX0_mendParents_60 c Q k2 M a1 a3 s0) : Gx l E mX0_mendParents (xRv Q) 60 M [some (.ref c), some (.int a1), none, some (.int a3), none] [.int s0] := by
  unfold wX0_mendParents_60 at h
  refine Gx_run (es := eX0_mendParents_60) (P := []) (M' := M) (L' := [some (.ref c), some (.int a1), none, some (.int a3), some (.int s0)]) (st' := [.int s0, .int a3]) (pc' := 65) kX0_mendParents_60 rfl trivial rfl ?_
  refine Gx_icmp_eq (off := 25) (tgt := 90) (by decide +kernel) (by decide) (fun z => ?_) (fun z => ?_)
  · have h := h.1 z
    refine Gx_mask [true, true, false, false, false] (L' := [some (.ref c), some (.int a1), none, none, none]) rfl ?_
    exact tX0_mendParents_90 h_c  hk2 M a1 h
  · have h := h.2 z
    refine Gx_run (es := eX0_mendParents_68) (P := []) (M' := M) (L' := [some (.ref c), some (.int a1), none, some (.int a3), some (.int s0)]) (st' := [.int a3, .int a1, .int (12 : Int32), .ref c]) (pc' := 73) kX0_mendParents_68 rfl trivial rfl ?_
    refine Gx_callV (As := [.int (12 : Int32), .int a1, .int a3]) (by decide +kernel) ml_0_64 okX0_asks mvX0_asks rfl (by decide) (Nat.le_of_ble_eq_true rfl) (xChk_0 h_c) rfl rfl (tX0_asks h_c h) (fun rr M73 qq => ?_)
    obtain ⟨r73, rfl, h⟩ := qq
    show Gx l E mX0_mendParents _ 76 M73 [some (.ref c), some (.int a1), none, some (.int a3), some (.int s0)] [.int r73]
    refine Gx_if_eq (off := 14) (tgt := 90) (by decide +kernel) (by decide) (fun z => ?_) (fun z => ?_)
    · have h := h.1 z
      refine Gx_mask [true, true, false, false, false] (L' := [some (.ref c), some (.int a1), none, none, none]) rfl ?_
      exact tX0_mendParents_90 h_c  hk2 M73 a1 h
    · have h := h.2 z
      obtain ⟨g79_0, h⟩ := h
      refine Gx_run (es := eX0_mendParents_79) (P := [xkd c = 0, xkd (c + 1) = 2, xkd (c + 4) = 5, vp_in a1 (xln (c + 4))]) (M' := (xup M73 (c + 4) a1.toNatClampNeg s0)) (L' := [some (.ref c), some (.int a1), none, some (.int a3), some (.int s0)]) (st' := []) (pc' := 90) kX0_mendParents_79 rfl ⟨(xChk_0 h_c), (xChk_1 h_c), (xChk_4 h_c), (by rw [xChk_l4 h_c]; exact g79_0), trivial⟩ rfl ?_
      refine Gx_mask [true, true, false, false, false] (L' := [some (.ref c), some (.int a1), none, none, none]) rfl ?_
      exact tX0_mendParents_90 h_c  hk2 (xup M73 (c + 4) a1.toNatClampNeg s0) a1 h
def wX0_mendParents_35 (c : Nat) (Q : xM → Prop) (k2 : xM → Int32 → Prop) (M : xM) (a1 : Int32) (s0 : Int32) : Prop :=
    (vp_in a1 10) ∧ (((¬ s0 = (-9 : Int32)) → (wX0_mendParents_60 c Q k2 M a1 (M (c + 4) a1.toNatClampNeg) (s0 / (6 : Int32)))) ∧ ((s0 = (-9 : Int32)) → (wX0_mendParents_60 c Q k2 M a1 (M (c + 4) a1.toNatClampNeg) (M (c + 4) a1.toNatClampNeg))))
set_option maxHeartbeats 4000000 in
set_option maxRecDepth 100000 in
theorem tX0_mendParents_35 {l : Launch} {E : xE} {c : Nat} {Q : xM → Prop} {k2 : xM → Int32 → Prop} (h_c : xChk c) (hk2 : ∀ (M : xM) (a1 : Int32), k2 M a1 → Gx l E mX0_mendParents (xRv Q) 2 M [some (.ref c), some (.int a1), none, none, none] []) (M : xM) (a1 : Int32) (s0 : Int32) (h : wX0_mendParents_35 c Q k2 M a1 s0) : Gx l E mX0_mendParents (xRv Q) 35 M [some (.ref c), some (.int a1), none, none, none] [.int s0] := by
  unfold wX0_mendParents_35 at h
  obtain ⟨g35_0, h⟩ := h
  refine Gx_run (es := eX0_mendParents_35) (P := [xkd c = 0, xkd (c + 1) = 2, xkd (c + 4) = 5, vp_in a1 (xln (c + 4))]) (M' := M) (L' := [some (.ref c), some (.int a1), some (.int s0), some (.int (M (c + 4) a1.toNatClampNeg)), none]) (st' := [.int (-9 : Int32), .int s0]) (pc' := 49) kX0_mendParents_35 rfl ⟨(xChk_0 h_c), (xChk_1 h_c), (xChk_4 h_c), (by rw [xChk_l4 h_c]; exact g35_0), trivial⟩ rfl ?_
  refine Gx_icmp_ne (off := 7) (tgt := 56) (by decide +kernel) (by decide) (fun z => ?_) (fun z => ?_)
  · have h := h.1 z
    refine Gx_run (es := eX0_mendParents_56) (P := [¬ (6 : Int32) = 0]) (M' := M) (L' := [some (.ref c), some (.int a1), some (.int s0), some (.int (M (c + 4) a1.toNatClampNeg)), none]) (st' := [.int (s0 / (6 : Int32))]) (pc' := 60) kX0_mendParents_56 rfl ⟨(by decide), trivial⟩ rfl ?_
    refine Gx_mask [true, true, false, true, false] (L' := [some (.ref c), some (.int a1), none, some (.int (M (c + 4) a1.toNatClampNeg)), none]) rfl ?_
    exact tX0_mendParents_60 h_c  hk2 M a1 (M (c + 4) a1.toNatClampNeg) (s0 / (6 : Int32)) h
  · have h := h.2 z
    refine Gx_run (es := eX0_mendParents_52) (P := []) (M' := M) (L' := [some (.ref c), some (.int a1), some (.int s0), some (.int (M (c + 4) a1.toNatClampNeg)), none]) (st' := [.int (M (c + 4) a1.toNatClampNeg)]) (pc' := 53) kX0_mendParents_52 rfl trivial rfl ?_
    refine Gx_goto (off := 7) (tgt := 60) (by decide +kernel) (by decide) ?_
    refine Gx_mask [true, true, false, true, false] (L' := [some (.ref c), some (.int a1), none, some (.int (M (c + 4) a1.toNatClampNeg)), none]) rfl ?_
    exact tX0_mendParents_60 h_c  hk2 M a1 (M (c + 4) a1.toNatClampNeg) (M (c + 4) a1.toNatClampNeg) h
def lX0_mendParents_2 (c : Nat) (Q : xM → Prop) : Nat → xM → Int32 → Prop
  | 0 => fun _ _ => False
  | n + 1 => let k2 := lX0_mendParents_2 c Q n; fun M a1 =>
    ((((10 : Int32) ≤ a1) → (Q M)) ∧ ((¬ (10 : Int32) ≤ a1) → (wX2_isDirectory M (c + 1) a1 (fun r13 M13 => (((r13 = 0) → (wX0_mendParents_90 c Q k2 M13 a1)) ∧ ((¬ r13 = 0) → ((((¬ a1 = 0) → (wX2_placeOfEntryTo M13 (c + 1) a1 (fun r32 M32 => wX0_mendParents_35 c Q k2 M32 a1 r32))) ∧ ((a1 = 0) → (wX0_mendParents_35 c Q k2 M13 a1 (0 : Int32)))))))))))
set_option maxHeartbeats 4000000 in
set_option maxRecDepth 100000 in
theorem tX0_mendParents_2 {l : Launch} {E : xE} {c : Nat} {Q : xM → Prop} (h_c : xChk c) (n : Nat) : ∀ (M : xM) (a1 : Int32), lX0_mendParents_2 c Q n M a1 → Gx l E mX0_mendParents (xRv Q) 2 M [some (.ref c), some (.int a1), none, none, none] [] := by
  induction n with
  | zero => intro M a1 h; exact h.elim
  | succ n hk2 =>
      intro M a1 h
      unfold lX0_mendParents_2 at h
      dsimp only at h
      refine Gx_run (es := eX0_mendParents_2) (P := []) (M' := M) (L' := [some (.ref c), some (.int a1), none, none, none]) (st' := [.int (10 : Int32), .int a1]) (pc' := 5) kX0_mendParents_2 rfl trivial rfl ?_
      refine Gx_icmp_ge (off := 91) (tgt := 96) (by decide +kernel) (by decide) (fun z => ?_) (fun z => ?_)
      · have h := h.1 z
        exact Gx_vret (by decide +kernel) rfl ⟨rfl, h⟩
      · have h := h.2 z
        refine Gx_run (es := eX0_mendParents_8) (P := [xkd c = 0]) (M' := M) (L' := [some (.ref c), some (.int a1), none, none, none]) (st' := [.int a1, .ref (c + 1)]) (pc' := 13) kX0_mendParents_8 rfl ⟨(xChk_0 h_c), trivial⟩ rfl ?_
        refine Gx_callV (As := [.int a1]) (by decide +kernel) ml_0_60 okX2_isDirectory mvX2_isDirectory rfl (by decide) (Nat.le_of_ble_eq_true rfl) (xChk_1 h_c) rfl rfl (tX2_isDirectory (xChk_v h_c) h) (fun rr M13 qq => ?_)
        obtain ⟨r13, rfl, h⟩ := qq
        show Gx l E mX0_mendParents _ 16 M13 [some (.ref c), some (.int a1), none, none, none] [.int r13]
        refine Gx_if_eq (off := 74) (tgt := 90) (by decide +kernel) (by decide) (fun z => ?_) (fun z => ?_)
        · have h := h.1 z
          refine Gx_mask [true, true, false, false, false] (L' := [some (.ref c), some (.int a1), none, none, none]) rfl ?_
          exact tX0_mendParents_90 h_c  hk2 M13 a1 h
        · have h := h.2 z
          refine Gx_run (es := eX0_mendParents_19) (P := []) (M' := M13) (L' := [some (.ref c), some (.int a1), none, none, none]) (st' := [.int a1]) (pc' := 20) kX0_mendParents_19 rfl trivial rfl ?_
          refine Gx_if_ne (off := 7) (tgt := 27) (by decide +kernel) (by decide) (fun z => ?_) (fun z => ?_)
          · have h := h.1 z
            refine Gx_run (es := eX0_mendParents_27) (P := [xkd c = 0]) (M' := M13) (L' := [some (.ref c), some (.int a1), none, none, none]) (st' := [.int a1, .ref (c + 1)]) (pc' := 32) kX0_mendParents_27 rfl ⟨(xChk_0 h_c), trivial⟩ rfl ?_
            refine Gx_callV (As := [.int a1]) (by decide +kernel) ml_0_135 okX2_placeOfEntryTo mvX2_placeOfEntryTo rfl (by decide) (Nat.le_of_ble_eq_true rfl) (xChk_1 h_c) rfl rfl (tX2_placeOfEntryTo (xChk_v h_c) h) (fun rr M32 qq => ?_)
            obtain ⟨r32, rfl, h⟩ := qq
            show Gx l E mX0_mendParents _ 35 M32 [some (.ref c), some (.int a1), none, none, none] [.int r32]
            refine Gx_mask [true, true, false, false, false] (L' := [some (.ref c), some (.int a1), none, none, none]) rfl ?_
            exact tX0_mendParents_35 h_c  hk2 M32 a1 r32 h
          · have h := h.2 z
            refine Gx_run (es := eX0_mendParents_23) (P := []) (M' := M13) (L' := [some (.ref c), some (.int a1), none, none, none]) (st' := [.int (0 : Int32)]) (pc' := 24) kX0_mendParents_23 rfl trivial rfl ?_
            refine Gx_goto (off := 11) (tgt := 35) (by decide +kernel) (by decide) ?_
            refine Gx_mask [true, true, false, false, false] (L' := [some (.ref c), some (.int a1), none, none, none]) rfl ?_
            exact tX0_mendParents_35 h_c  hk2 M13 a1 (0 : Int32) h
def wX0_mendParents (M : xM) (c : Nat) (Q : xM → Prop) : Prop :=
    (∃ n : Nat, lX0_mendParents_2 c Q n M (0 : Int32))
set_option maxHeartbeats 4000000 in
set_option maxRecDepth 100000 in
theorem tX0_mendParents {l : Launch} {E : xE} {M : xM} {c : Nat} {Q : xM → Prop} (h_c : xChk c) (h : wX0_mendParents M c Q) : Ct l E mX0_mendParents [.ref c] M (xRv Q) := by
  refine Ct_of (by decide +kernel) rfl (Nat.le_of_ble_eq_true rfl) ?_
  unfold wX0_mendParents at h
  show Gx l E mX0_mendParents (xRv Q) 0 M [some (.ref c), none, none, none, none] []
  refine Gx_run (es := eX0_mendParents_0) (P := []) (M' := M) (L' := [some (.ref c), some (.int (0 : Int32)), none, none, none]) (st' := []) (pc' := 2) kX0_mendParents_0 rfl trivial rfl ?_
  refine Gx_mask [true, true, false, false, false] (L' := [some (.ref c), some (.int (0 : Int32)), none, none, none]) rfl ?_
  obtain ⟨n, h⟩ := h
  exact tX0_mendParents_2 h_c  n M (0 : Int32) h
def eX1_digitAt_0 : List xI := [(.aload_n 0, 1, 0, 0, 0), (.iload_n 1, 1, 0, 0, 0)]
theorem kX1_digitAt_0 : xcode (xmb mX1_digitAt) (xmo mX1_digitAt) 0 eX1_digitAt_0 = true := by decide +kernel
def eX1_digitAt_5 : List xI := [(.bipush 48, 2, 0, 0, (48)), (.isub, 1, 0, 0, 0)]
theorem kX1_digitAt_5 : xcode (xmb mX1_digitAt) (xmo mX1_digitAt) 5 eX1_digitAt_5 = true := by decide +kernel
def wX1_digitAt (M : xM) (p1 : Int32) (Q : Int32 → xM → Prop) : Prop :=
    wX1_signAt M p1 (fun r2 M2 => Q (r2 - (48 : Int32)) M2)
set_option maxHeartbeats 4000000 in
set_option maxRecDepth 100000 in
theorem tX1_digitAt {l : Launch} {E : xE} {M : xM} {p1 : Int32} {Q : Int32 → xM → Prop} (h : wX1_digitAt M p1 Q) : Ct l E mX1_digitAt [.ref 46, .int p1] M (xRi Q) := by
  refine Ct_of (by decide +kernel) rfl (Nat.le_of_ble_eq_true rfl) ?_
  unfold wX1_digitAt at h
  show Gx l E mX1_digitAt (xRi Q) 0 M [some (.ref 46), some (.int p1)] []
  refine Gx_run (es := eX1_digitAt_0) (P := []) (M' := M) (L' := [some (.ref 46), some (.int p1)]) (st' := [.int p1, .ref 46]) (pc' := 2) kX1_digitAt_0 rfl trivial rfl ?_
  refine Gx_callV (As := [.int p1]) (by decide +kernel) ml_1_19 okX1_signAt mvX1_signAt rfl (by decide) (Nat.le_of_ble_eq_true rfl) rfl rfl rfl (tX1_signAt h) (fun rr M2 qq => ?_)
  obtain ⟨r2, rfl, h⟩ := qq
  show Gx l E mX1_digitAt _ 5 M2 [some (.ref 46), some (.int p1)] [.int r2]
  refine Gx_run (es := eX1_digitAt_5) (P := []) (M' := M2) (L' := [some (.ref 46), some (.int p1)]) (st' := [.int (r2 - (48 : Int32))]) (pc' := 8) kX1_digitAt_5 rfl trivial rfl ?_
  exact Gx_iret (by decide +kernel) rfl rfl ⟨_, rfl, h⟩
def eX1_nameAt_0 : List xI := [(.aload_n 0, 1, 0, 0, 0), (.iload_n 1, 1, 0, 0, 0)]
theorem kX1_nameAt_0 : xcode (xmb mX1_nameAt) (xmo mX1_nameAt) 0 eX1_nameAt_0 = true := by decide +kernel
def eX1_nameAt_5 : List xI := [(.bipush 97, 2, 0, 0, (97)), (.isub, 1, 0, 0, 0)]
theorem kX1_nameAt_5 : xcode (xmb mX1_nameAt) (xmo mX1_nameAt) 5 eX1_nameAt_5 = true := by decide +kernel
def wX1_nameAt (M : xM) (p1 : Int32) (Q : Int32 → xM → Prop) : Prop :=
    wX1_signAt M p1 (fun r2 M2 => Q (r2 - (97 : Int32)) M2)
set_option maxHeartbeats 4000000 in
set_option maxRecDepth 100000 in
theorem tX1_nameAt {l : Launch} {E : xE} {M : xM} {p1 : Int32} {Q : Int32 → xM → Prop} (h : wX1_nameAt M p1 Q) : Ct l E mX1_nameAt [.ref 46, .int p1] M (xRi Q) := by
  refine Ct_of (by decide +kernel) rfl (Nat.le_of_ble_eq_true rfl) ?_
  unfold wX1_nameAt at h
  show Gx l E mX1_nameAt (xRi Q) 0 M [some (.ref 46), some (.int p1)] []
  refine Gx_run (es := eX1_nameAt_0) (P := []) (M' := M) (L' := [some (.ref 46), some (.int p1)]) (st' := [.int p1, .ref 46]) (pc' := 2) kX1_nameAt_0 rfl trivial rfl ?_
  refine Gx_callV (As := [.int p1]) (by decide +kernel) ml_1_19 okX1_signAt mvX1_signAt rfl (by decide) (Nat.le_of_ble_eq_true rfl) rfl rfl rfl (tX1_signAt h) (fun rr M2 qq => ?_)
  obtain ⟨r2, rfl, h⟩ := qq
  show Gx l E mX1_nameAt _ 5 M2 [some (.ref 46), some (.int p1)] [.int r2]
  refine Gx_run (es := eX1_nameAt_5) (P := []) (M' := M2) (L' := [some (.ref 46), some (.int p1)]) (st' := [.int (r2 - (97 : Int32))]) (pc' := 8) kX1_nameAt_5 rfl trivial rfl ?_
  exact Gx_iret (by decide +kernel) rfl rfl ⟨_, rfl, h⟩
def eX2_blockOf_0 : List xI := [(.aload_n 0, 1, 0, 0, 0), (.getfield 21, 3, 2, 3, 0), (.iconst 3, 1, 0, 0, (3)), (.iload_n 1, 1, 0, 0, 0), (.imul, 1, 0, 0, 0), (.iload_n 2, 1, 0, 0, 0), (.iadd, 1, 0, 0, 0), (.iaload, 1, 0, 0, 0), (.istore_n 3, 1, 0, 0, 0), (.iload_n 3, 1, 0, 0, 0), (.bipush 24, 2, 0, 0, (24))]
theorem kX2_blockOf_0 : xcode (xmb mX2_blockOf) (xmo mX2_blockOf) 0 eX2_blockOf_0 = true := by decide +kernel
def eX2_blockOf_24 : List xI := [(.iconst 1, 1, 0, 0, (1)), (.iload_n 3, 1, 0, 0, 0), (.ishl, 1, 0, 0, 0)]
theorem kX2_blockOf_24 : xcode (xmb mX2_blockOf) (xmo mX2_blockOf) 24 eX2_blockOf_24 = true := by decide +kernel
def eX2_blockOf_20 : List xI := [(.iconst 0, 1, 0, 0, (0))]
theorem kX2_blockOf_20 : xcode (xmb mX2_blockOf) (xmo mX2_blockOf) 20 eX2_blockOf_20 = true := by decide +kernel
def wX2_blockOf_27 (v : Nat) (p1 : Int32) (p2 : Int32) (Q : Int32 → xM → Prop) (M : xM) (s0 : Int32) : Prop :=
    Q s0 M
set_option maxHeartbeats 4000000 in
set_option maxRecDepth 100000 in
theorem tX2_blockOf_27 {l : Launch} {E : xE} {v : Nat} {p1 : Int32} {p2 : Int32} {Q : Int32 → xM → Prop} (h_v : xVol v) (M : xM) (s0 : Int32) (h : wX2_blockOf_27 v p1 p2 Q M s0) : Gx l E mX2_blockOf (xRi Q) 27 M [none, none, none, none] [.int s0] := by
  unfold wX2_blockOf_27 at h
  exact Gx_iret (by decide +kernel) rfl rfl ⟨_, rfl, h⟩
def wX2_blockOf (M : xM) (v : Nat) (p1 : Int32) (p2 : Int32) (Q : Int32 → xM → Prop) : Prop :=
    (vp_in (((3 : Int32) * p1) + p2) 30) ∧ wX3_isOutside M (M (v + 4) (((3 : Int32) * p1) + p2).toNatClampNeg) (24 : Int32) (fun r14 M14 => (((r14 = 0) → (wX2_blockOf_27 v p1 p2 Q M14 ((1 : Int32) <<< ((M (v + 4) (((3 : Int32) * p1) + p2).toNatClampNeg) &&& 31)))) ∧ ((¬ r14 = 0) → (wX2_blockOf_27 v p1 p2 Q M14 (0 : Int32)))))
set_option maxHeartbeats 4000000 in
set_option maxRecDepth 100000 in
theorem tX2_blockOf {l : Launch} {E : xE} {M : xM} {v : Nat} {p1 : Int32} {p2 : Int32} {Q : Int32 → xM → Prop} (h_v : xVol v) (h : wX2_blockOf M v p1 p2 Q) : Ct l E mX2_blockOf [.ref v, .int p1, .int p2] M (xRi Q) := by
  refine Ct_of (by decide +kernel) rfl (Nat.le_of_ble_eq_true rfl) ?_
  unfold wX2_blockOf at h
  show Gx l E mX2_blockOf (xRi Q) 0 M [some (.ref v), some (.int p1), some (.int p2), none] []
  obtain ⟨g0_0, h⟩ := h
  refine Gx_run (es := eX2_blockOf_0) (P := [xkd v = 2, xkd (v + 4) = 5, vp_in (((3 : Int32) * p1) + p2) (xln (v + 4))]) (M' := M) (L' := [some (.ref v), some (.int p1), some (.int p2), some (.int (M (v + 4) (((3 : Int32) * p1) + p2).toNatClampNeg))]) (st' := [.int (24 : Int32), .int (M (v + 4) (((3 : Int32) * p1) + p2).toNatClampNeg)]) (pc' := 14) kX2_blockOf_0 rfl ⟨(xVol_0 h_v), (xVol_4 h_v), (by rw [xVol_l4 h_v]; exact g0_0), trivial⟩ rfl ?_
  refine Gx_callN (As := [.int (M (v + 4) (((3 : Int32) * p1) + p2).toNatClampNeg), .int (24 : Int32)]) (by decide +kernel) rfl rfl okX3_isOutside mvX3_isOutside rfl (by decide) (Nat.le_of_ble_eq_true rfl) (tX3_isOutside h) (fun rr M14 qq => ?_)
  obtain ⟨r14, rfl, h⟩ := qq
  show Gx l E mX2_blockOf _ 17 M14 [some (.ref v), some (.int p1), some (.int p2), some (.int (M (v + 4) (((3 : Int32) * p1) + p2).toNatClampNeg))] [.int r14]
  refine Gx_if_eq (off := 7) (tgt := 24) (by decide +kernel) (by decide) (fun z => ?_) (fun z => ?_)
  · have h := h.1 z
    refine Gx_run (es := eX2_blockOf_24) (P := []) (M' := M14) (L' := [some (.ref v), some (.int p1), some (.int p2), some (.int (M (v + 4) (((3 : Int32) * p1) + p2).toNatClampNeg))]) (st' := [.int ((1 : Int32) <<< ((M (v + 4) (((3 : Int32) * p1) + p2).toNatClampNeg) &&& 31))]) (pc' := 27) kX2_blockOf_24 rfl trivial rfl ?_
    refine Gx_mask [false, false, false, false] (L' := [none, none, none, none]) rfl ?_
    exact tX2_blockOf_27 h_v  M14 ((1 : Int32) <<< ((M (v + 4) (((3 : Int32) * p1) + p2).toNatClampNeg) &&& 31)) h
  · have h := h.2 z
    refine Gx_run (es := eX2_blockOf_20) (P := []) (M' := M14) (L' := [some (.ref v), some (.int p1), some (.int p2), some (.int (M (v + 4) (((3 : Int32) * p1) + p2).toNatClampNeg))]) (st' := [.int (0 : Int32)]) (pc' := 21) kX2_blockOf_20 rfl trivial rfl ?_
    refine Gx_goto (off := 6) (tgt := 27) (by decide +kernel) (by decide) ?_
    refine Gx_mask [false, false, false, false] (L' := [none, none, none, none]) rfl ?_
    exact tX2_blockOf_27 h_v  M14 (0 : Int32) h
def eX2_countEntries_0 : List xI := [(.aload_n 1, 1, 0, 0, 0), (.iconst 0, 1, 0, 0, (0))]
theorem kX2_countEntries_0 : xcode (xmb mX2_countEntries) (xmo mX2_countEntries) 0 eX2_countEntries_0 = true := by decide +kernel
def eX2_countEntries_5 : List xI := [(.iconst 0, 1, 0, 0, (0)), (.istore_n 2, 1, 0, 0, 0)]
theorem kX2_countEntries_5 : xcode (xmb mX2_countEntries) (xmo mX2_countEntries) 5 eX2_countEntries_5 = true := by decide +kernel
def eX2_countEntries_7 : List xI := [(.iload_n 2, 1, 0, 0, 0), (.aload_n 0, 1, 0, 0, 0), (.getfield 24, 3, 2, 4, 0), (.arraylength, 1, 0, 0, 0)]
theorem kX2_countEntries_7 : xcode (xmb mX2_countEntries) (xmo mX2_countEntries) 7 eX2_countEntries_7 = true := by decide +kernel
def eX2_countEntries_16 : List xI := [(.aload_n 0, 1, 0, 0, 0), (.getfield 24, 3, 2, 4, 0), (.iload_n 2, 1, 0, 0, 0), (.iaload, 1, 0, 0, 0), (.bipush (-9), 2, 0, 0, (-9))]
theorem kX2_countEntries_16 : xcode (xmb mX2_countEntries) (xmo mX2_countEntries) 16 eX2_countEntries_16 = true := by decide +kernel
def eX2_countEntries_32 : List xI := [(.aload_n 0, 1, 0, 0, 0), (.getfield 24, 3, 2, 4, 0), (.iload_n 2, 1, 0, 0, 0), (.iaload, 1, 0, 0, 0), (.bipush 26, 2, 0, 0, (26)), (.idiv, 1, 0, 0, 0)]
theorem kX2_countEntries_32 : xcode (xmb mX2_countEntries) (xmo mX2_countEntries) 32 eX2_countEntries_32 = true := by decide +kernel
def eX2_countEntries_41 : List xI := [(.istore_n 3, 1, 0, 0, 0), (.iload_n 3, 1, 0, 0, 0)]
theorem kX2_countEntries_41 : xcode (xmb mX2_countEntries) (xmo mX2_countEntries) 41 eX2_countEntries_41 = true := by decide +kernel
def eX2_countEntries_59 : List xI := [(.iinc 2 1, 3, 0, 0, (1))]
theorem kX2_countEntries_59 : xcode (xmb mX2_countEntries) (xmo mX2_countEntries) 59 eX2_countEntries_59 = true := by decide +kernel
def eX2_countEntries_46 : List xI := [(.iload_n 3, 1, 0, 0, 0), (.aload_n 1, 1, 0, 0, 0), (.arraylength, 1, 0, 0, 0)]
theorem kX2_countEntries_46 : xcode (xmb mX2_countEntries) (xmo mX2_countEntries) 46 eX2_countEntries_46 = true := by decide +kernel
def eX2_countEntries_52 : List xI := [(.aload_n 1, 1, 0, 0, 0), (.iload_n 3, 1, 0, 0, 0), (.dup2, 1, 0, 0, 0), (.iaload, 1, 0, 0, 0), (.iconst 1, 1, 0, 0, (1)), (.iadd, 1, 0, 0, 0), (.iastore, 1, 0, 0, 0)]
theorem kX2_countEntries_52 : xcode (xmb mX2_countEntries) (xmo mX2_countEntries) 52 eX2_countEntries_52 = true := by decide +kernel
def eX2_countEntries_27 : List xI := [(.bipush (-9), 2, 0, 0, (-9))]
theorem kX2_countEntries_27 : xcode (xmb mX2_countEntries) (xmo mX2_countEntries) 27 eX2_countEntries_27 = true := by decide +kernel
def wX2_countEntries_59 (v : Nat) (p1 : Nat) (Q : xM → Prop) (k7 : xM → Int32 → Prop) (M : xM) (a2 : Int32) : Prop :=
    k7 M (a2 + (1 : Int32))
set_option maxHeartbeats 4000000 in
set_option maxRecDepth 100000 in
theorem tX2_countEntries_59 {l : Launch} {E : xE} {v : Nat} {p1 : Nat} {Q : xM → Prop} {k7 : xM → Int32 → Prop} (h_v : xVol v) (h_p1 : xRow p1) (hk7 : ∀ (M : xM) (a2 : Int32), k7 M a2 → Gx l E mX2_countEntries (xRv Q) 7 M [some (.ref v), some (.ref p1), some (.int a2), none] []) (M : xM) (a2 : Int32) (h : wX2_countEntries_59 v p1 Q k7 M a2) : Gx l E mX2_countEntries (xRv Q) 59 M [some (.ref v), some (.ref p1), some (.int a2), none] [] := by
  unfold wX2_countEntries_59 at h
  refine Gx_run (es := eX2_countEntries_59) (P := []) (M' := M) (L' := [some (.ref v), some (.ref p1), some (.int (a2 + (1 : Int32))), none]) (st' := []) (pc' := 62) kX2_countEntries_59 rfl trivial rfl ?_
  refine Gx_goto (off := -55) (tgt := 7) (by decide +kernel) (by decide) ?_
  refine Gx_mask [true, true, true, false] (L' := [some (.ref v), some (.ref p1), some (.int (a2 + (1 : Int32))), none]) rfl ?_
  exact hk7 M (a2 + (1 : Int32)) h
def wX2_countEntries_41 (v : Nat) (p1 : Nat) (Q : xM → Prop) (k7 : xM → Int32 → Prop) (M : xM) (a2 : Int32) (s0 : Int32) : Prop :=
    (((s0 < 0) → (wX2_countEntries_59 v p1 Q k7 M a2)) ∧ ((¬ s0 < 0) → (((((nI (xln p1)) ≤ s0) → (wX2_countEntries_59 v p1 Q k7 M a2)) ∧ ((¬ (nI (xln p1)) ≤ s0) → ((vp_in s0 (xln p1)) ∧ wX2_countEntries_59 v p1 Q k7 (xup M p1 s0.toNatClampNeg ((M p1 s0.toNatClampNeg) + (1 : Int32))) a2))))))
set_option maxHeartbeats 4000000 in
set_option maxRecDepth 100000 in
theorem tX2_countEntries_41 {l : Launch} {E : xE} {v : Nat} {p1 : Nat} {Q : xM → Prop} {k7 : xM → Int32 → Prop} (h_v : xVol v) (h_p1 : xRow p1) (hk7 : ∀ (M : xM) (a2 : Int32), k7 M a2 → Gx l E mX2_countEntries (xRv Q) 7 M [some (.ref v), some (.ref p1), some (.int a2), none] []) (M : xM) (a2 : Int32) (s0 : Int32) (h : wX2_countEntries_41 v p1 Q k7 M a2 s0) : Gx l E mX2_countEntries (xRv Q) 41 M [some (.ref v), some (.ref p1), some (.int a2), none] [.int s0] := by
  unfold wX2_countEntries_41 at h
  refine Gx_run (es := eX2_countEntries_41) (P := []) (M' := M) (L' := [some (.ref v), some (.ref p1), some (.int a2), some (.int s0)]) (st' := [.int s0]) (pc' := 43) kX2_countEntries_41 rfl trivial rfl ?_
  refine Gx_if_lt (off := 16) (tgt := 59) (by decide +kernel) (by decide) (fun z => ?_) (fun z => ?_)
  · have h := h.1 z
    refine Gx_mask [true, true, true, false] (L' := [some (.ref v), some (.ref p1), some (.int a2), none]) rfl ?_
    exact tX2_countEntries_59 h_v h_p1  hk7 M a2 h
  · have h := h.2 z
    refine Gx_run (es := eX2_countEntries_46) (P := [xkd p1 = 5]) (M' := M) (L' := [some (.ref v), some (.ref p1), some (.int a2), some (.int s0)]) (st' := [.int (nI (xln p1)), .int s0]) (pc' := 49) kX2_countEntries_46 rfl ⟨h_p1, trivial⟩ rfl ?_
    refine Gx_icmp_ge (off := 10) (tgt := 59) (by decide +kernel) (by decide) (fun z => ?_) (fun z => ?_)
    · have h := h.1 z
      refine Gx_mask [true, true, true, false] (L' := [some (.ref v), some (.ref p1), some (.int a2), none]) rfl ?_
      exact tX2_countEntries_59 h_v h_p1  hk7 M a2 h
    · have h := h.2 z
      obtain ⟨g52_0, h⟩ := h
      refine Gx_run (es := eX2_countEntries_52) (P := [xkd p1 = 5, vp_in s0 (xln p1), xkd p1 = 5, vp_in s0 (xln p1)]) (M' := (xup M p1 s0.toNatClampNeg ((M p1 s0.toNatClampNeg) + (1 : Int32)))) (L' := [some (.ref v), some (.ref p1), some (.int a2), some (.int s0)]) (st' := []) (pc' := 59) kX2_countEntries_52 rfl ⟨h_p1, g52_0, h_p1, g52_0, trivial⟩ rfl ?_
      refine Gx_mask [true, true, true, false] (L' := [some (.ref v), some (.ref p1), some (.int a2), none]) rfl ?_
      exact tX2_countEntries_59 h_v h_p1  hk7 (xup M p1 s0.toNatClampNeg ((M p1 s0.toNatClampNeg) + (1 : Int32))) a2 h
def lX2_countEntries_7 (v : Nat) (p1 : Nat) (Q : xM → Prop) : Nat → xM → Int32 → Prop
  | 0 => fun _ _ => False
  | n + 1 => let k7 := lX2_countEntries_7 v p1 Q n; fun M a2 =>
    ((((nI (xln (v + 5))) ≤ a2) → (Q M)) ∧ ((¬ (nI (xln (v + 5))) ≤ a2) → ((vp_in a2 60) ∧ (((¬ (M (v + 5) a2.toNatClampNeg) = (-9 : Int32)) → ((vp_in a2 60) ∧ wX2_countEntries_41 v p1 Q k7 M a2 ((M (v + 5) a2.toNatClampNeg) / (26 : Int32)))) ∧ (((M (v + 5) a2.toNatClampNeg) = (-9 : Int32)) → (wX2_countEntries_41 v p1 Q k7 M a2 (-9 : Int32)))))))
set_option maxHeartbeats 4000000 in
set_option maxRecDepth 100000 in
theorem tX2_countEntries_7 {l : Launch} {E : xE} {v : Nat} {p1 : Nat} {Q : xM → Prop} (h_v : xVol v) (h_p1 : xRow p1) (n : Nat) : ∀ (M : xM) (a2 : Int32), lX2_countEntries_7 v p1 Q n M a2 → Gx l E mX2_countEntries (xRv Q) 7 M [some (.ref v), some (.ref p1), some (.int a2), none] [] := by
  induction n with
  | zero => intro M a2 h; exact h.elim
  | succ n hk7 =>
      intro M a2 h
      unfold lX2_countEntries_7 at h
      dsimp only at h
      refine Gx_run (es := eX2_countEntries_7) (P := [xkd v = 2, xkd (v + 5) = 5]) (M' := M) (L' := [some (.ref v), some (.ref p1), some (.int a2), none]) (st' := [.int (nI (xln (v + 5))), .int a2]) (pc' := 13) kX2_countEntries_7 rfl ⟨(xVol_0 h_v), (xVol_5 h_v), trivial⟩ rfl ?_
      refine Gx_icmp_ge (off := 52) (tgt := 65) (by decide +kernel) (by decide) (fun z => ?_) (fun z => ?_)
      · have h := h.1 z
        exact Gx_vret (by decide +kernel) rfl ⟨rfl, h⟩
      · have h := h.2 z
        obtain ⟨g16_0, h⟩ := h
        refine Gx_run (es := eX2_countEntries_16) (P := [xkd v = 2, xkd (v + 5) = 5, vp_in a2 (xln (v + 5))]) (M' := M) (L' := [some (.ref v), some (.ref p1), some (.int a2), none]) (st' := [.int (-9 : Int32), .int (M (v + 5) a2.toNatClampNeg)]) (pc' := 24) kX2_countEntries_16 rfl ⟨(xVol_0 h_v), (xVol_5 h_v), (by rw [xVol_l5 h_v]; exact g16_0), trivial⟩ rfl ?_
        refine Gx_icmp_ne (off := 8) (tgt := 32) (by decide +kernel) (by decide) (fun z => ?_) (fun z => ?_)
        · have h := h.1 z
          obtain ⟨g32_0, h⟩ := h
          refine Gx_run (es := eX2_countEntries_32) (P := [xkd v = 2, xkd (v + 5) = 5, vp_in a2 (xln (v + 5)), ¬ (26 : Int32) = 0]) (M' := M) (L' := [some (.ref v), some (.ref p1), some (.int a2), none]) (st' := [.int ((M (v + 5) a2.toNatClampNeg) / (26 : Int32))]) (pc' := 41) kX2_countEntries_32 rfl ⟨(xVol_0 h_v), (xVol_5 h_v), (by rw [xVol_l5 h_v]; exact g32_0), (by decide), trivial⟩ rfl ?_
          refine Gx_mask [true, true, true, false] (L' := [some (.ref v), some (.ref p1), some (.int a2), none]) rfl ?_
          exact tX2_countEntries_41 h_v h_p1  hk7 M a2 ((M (v + 5) a2.toNatClampNeg) / (26 : Int32)) h
        · have h := h.2 z
          refine Gx_run (es := eX2_countEntries_27) (P := []) (M' := M) (L' := [some (.ref v), some (.ref p1), some (.int a2), none]) (st' := [.int (-9 : Int32)]) (pc' := 29) kX2_countEntries_27 rfl trivial rfl ?_
          refine Gx_goto (off := 12) (tgt := 41) (by decide +kernel) (by decide) ?_
          refine Gx_mask [true, true, true, false] (L' := [some (.ref v), some (.ref p1), some (.int a2), none]) rfl ?_
          exact tX2_countEntries_41 h_v h_p1  hk7 M a2 (-9 : Int32) h
def wX2_countEntries (M : xM) (v : Nat) (p1 : Nat) (Q : xM → Prop) : Prop :=
    wJ7_fill_53178 M p1 (0 : Int32) (fun M2 => (∃ n : Nat, lX2_countEntries_7 v p1 Q n M2 (0 : Int32)))
set_option maxHeartbeats 4000000 in
set_option maxRecDepth 100000 in
theorem tX2_countEntries {l : Launch} {E : xE} {M : xM} {v : Nat} {p1 : Nat} {Q : xM → Prop} (h_v : xVol v) (h_p1 : xRow p1) (h : wX2_countEntries M v p1 Q) : Ct l E mX2_countEntries [.ref v, .ref p1] M (xRv Q) := by
  refine Ct_of (by decide +kernel) rfl (Nat.le_of_ble_eq_true rfl) ?_
  unfold wX2_countEntries at h
  show Gx l E mX2_countEntries (xRv Q) 0 M [some (.ref v), some (.ref p1), none, none] []
  refine Gx_run (es := eX2_countEntries_0) (P := []) (M' := M) (L' := [some (.ref v), some (.ref p1), none, none]) (st' := [.int (0 : Int32), .ref p1]) (pc' := 2) kX2_countEntries_0 rfl trivial rfl ?_
  refine Gx_callS (As := [.ref p1, .int (0 : Int32)]) (by decide +kernel) ml_2_37 okJ7_fill_53178 mvJ7_fill_53178 rfl (by decide) (Nat.le_of_ble_eq_true rfl) (tJ7_fill_53178 h_p1 h) (fun rr M2 qq => ?_)
  obtain ⟨rfl, h⟩ := qq
  show Gx l E mX2_countEntries _ 5 M2 [some (.ref v), some (.ref p1), none, none] []
  refine Gx_run (es := eX2_countEntries_5) (P := []) (M' := M2) (L' := [some (.ref v), some (.ref p1), some (.int (0 : Int32)), none]) (st' := []) (pc' := 7) kX2_countEntries_5 rfl trivial rfl ?_
  refine Gx_mask [true, true, true, false] (L' := [some (.ref v), some (.ref p1), some (.int (0 : Int32)), none]) rfl ?_
  obtain ⟨n, h⟩ := h
  exact tX2_countEntries_7 h_v h_p1  n M2 (0 : Int32) h
