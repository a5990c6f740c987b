/-! walks: X3_kind, X3_letter, X3_links, X3_marks, X3_partOfFraction, X3_pointer, X3_points, X3_refuses, X3_row, X3_slot, X3_writes, X4_attaches -/
def eX3_kind_0 : List xI := [(.iload_n 1, 1, 0, 0, 0), (.bipush 10, 2, 0, 0, (10))]
theorem kX3_kind_0 : xcode (xmb mX3_kind) (xmo mX3_kind) 0 eX3_kind_0 = true := by decide +kernel
def eX3_kind_15 : List xI := [(.iload_n 2, 1, 0, 0, 0), (.bipush 6, 2, 0, 0, (6))]
theorem kX3_kind_15 : xcode (xmb mX3_kind) (xmo mX3_kind) 15 eX3_kind_15 = true := by decide +kernel
def eX3_kind_31 : List xI := [(.aload_n 0, 1, 0, 0, 0), (.getfield 10, 3, 3, 0, 0), (.getfield 88, 3, 2, 0, 0), (.iload_n 1, 1, 0, 0, 0), (.iaload, 1, 0, 0, 0), (.istore_n 3, 1, 0, 0, 0), (.aload_n 0, 1, 0, 0, 0), (.getfield 10, 3, 3, 0, 0), (.getfield 88, 3, 2, 0, 0), (.iload_n 1, 1, 0, 0, 0), (.iload_n 2, 1, 0, 0, 0), (.iastore, 1, 0, 0, 0), (.iload_n 3, 1, 0, 0, 0)]
theorem kX3_kind_31 : xcode (xmb mX3_kind) (xmo mX3_kind) 31 eX3_kind_31 = true := by decide +kernel
def eX3_kind_24 : List xI := [(.aload_n 0, 1, 0, 0, 0), (.bipush (-2), 2, 0, 0, (-2))]
theorem kX3_kind_24 : xcode (xmb mX3_kind) (xmo mX3_kind) 24 eX3_kind_24 = true := by decide +kernel
def eX3_kind_9 : List xI := [(.aload_n 0, 1, 0, 0, 0), (.iconst (-1), 1, 0, 0, (-1))]
theorem kX3_kind_9 : xcode (xmb mX3_kind) (xmo mX3_kind) 9 eX3_kind_9 = true := by decide +kernel
def wX3_kind (M : xM) (p1 : Int32) (p2 : Int32) (Q : Int32 → xM → Prop) : Prop :=
    wX3_isOutside M p1 (10 : Int32) (fun r3 M3 => (((r3 = 0) → (wX3_isOutside M3 p2 (6 : Int32) (fun r18 M18 => (((r18 = 0) → ((vp_in p1 10) ∧ Q (M18 2 p1.toNatClampNeg) (xup M18 2 p1.toNatClampNeg p2))) ∧ ((¬ r18 = 0) → (wX3_refusal M18 (-2 : Int32) (fun r27 M27 => Q r27 M27))))))) ∧ ((¬ r3 = 0) → (wX3_refusal M3 (-1 : Int32) (fun r11 M11 => Q r11 M11)))))
set_option maxHeartbeats 4000000 in
set_option maxRecDepth 100000 in
theorem tX3_kind {l : Launch} {E : xE} {M : xM} {p1 : Int32} {p2 : Int32} {Q : Int32 → xM → Prop} (h : wX3_kind M p1 p2 Q) : Ct l E mX3_kind [.ref 0, .int p1, .int p2] M (xRi Q) := by
  refine Ct_of (by decide +kernel) rfl (Nat.le_of_ble_eq_true rfl) ?_
  unfold wX3_kind at h
  show Gx l E mX3_kind (xRi Q) 0 M [some (.ref 0), some (.int p1), some (.int p2), none] []
  refine Gx_run (es := eX3_kind_0) (P := []) (M' := M) (L' := [some (.ref 0), some (.int p1), some (.int p2), none]) (st' := [.int (10 : Int32), .int p1]) (pc' := 3) kX3_kind_0 rfl trivial rfl ?_
  refine Gx_callS (As := [.int p1, .int (10 : Int32)]) (by decide +kernel) ml_3_84 okX3_isOutside mvX3_isOutside rfl (by decide) (Nat.le_of_ble_eq_true rfl) (tX3_isOutside h) (fun rr M3 qq => ?_)
  obtain ⟨r3, rfl, h⟩ := qq
  show Gx l E mX3_kind _ 6 M3 [some (.ref 0), some (.int p1), some (.int p2), none] [.int r3]
  refine Gx_if_eq (off := 9) (tgt := 15) (by decide +kernel) (by decide) (fun z => ?_) (fun z => ?_)
  · have h := h.1 z
    refine Gx_run (es := eX3_kind_15) (P := []) (M' := M3) (L' := [some (.ref 0), some (.int p1), some (.int p2), none]) (st' := [.int (6 : Int32), .int p2]) (pc' := 18) kX3_kind_15 rfl trivial rfl ?_
    refine Gx_callS (As := [.int p2, .int (6 : Int32)]) (by decide +kernel) ml_3_84 okX3_isOutside mvX3_isOutside rfl (by decide) (Nat.le_of_ble_eq_true rfl) (tX3_isOutside h) (fun rr M18 qq => ?_)
    obtain ⟨r18, rfl, h⟩ := qq
    show Gx l E mX3_kind _ 21 M18 [some (.ref 0), some (.int p1), some (.int p2), none] [.int r18]
    refine Gx_if_eq (off := 10) (tgt := 31) (by decide +kernel) (by decide) (fun z => ?_) (fun z => ?_)
    · have h := h.1 z
      obtain ⟨g31_0, h⟩ := h
      refine Gx_run (es := eX3_kind_31) (P := [xkd 0 = 3, xkd 1 = 2, xkd 2 = 5, vp_in p1 (xln 2), xkd 0 = 3, xkd 1 = 2, xkd 2 = 5, vp_in p1 (xln 2)]) (M' := (xup M18 2 p1.toNatClampNeg p2)) (L' := [some (.ref 0), some (.int p1), some (.int p2), some (.int (M18 2 p1.toNatClampNeg))]) (st' := [.int (M18 2 p1.toNatClampNeg)]) (pc' := 52) kX3_kind_31 rfl ⟨rfl, rfl, rfl, g31_0, rfl, rfl, rfl, g31_0, trivial⟩ rfl ?_
      exact Gx_iret (by decide +kernel) rfl rfl ⟨_, rfl, h⟩
    · have h := h.2 z
      refine Gx_run (es := eX3_kind_24) (P := []) (M' := M18) (L' := [some (.ref 0), some (.int p1), some (.int p2), none]) (st' := [.int (-2 : Int32), .ref 0]) (pc' := 27) kX3_kind_24 rfl trivial rfl ?_
      refine Gx_callV (As := [.int (-2 : Int32)]) (by decide +kernel) ml_3_63 okX3_refusal mvX3_refusal rfl (by decide) (Nat.le_of_ble_eq_true rfl) rfl rfl rfl (tX3_refusal h) (fun rr M27 qq => ?_)
      obtain ⟨r27, rfl, h⟩ := qq
      show Gx l E mX3_kind _ 30 M27 [some (.ref 0), some (.int p1), some (.int p2), none] [.int r27]
      exact Gx_iret (by decide +kernel) rfl rfl ⟨_, rfl, h⟩
  · have h := h.2 z
    refine Gx_run (es := eX3_kind_9) (P := []) (M' := M3) (L' := [some (.ref 0), some (.int p1), some (.int p2), none]) (st' := [.int (-1 : Int32), .ref 0]) (pc' := 11) kX3_kind_9 rfl trivial rfl ?_
    refine Gx_callV (As := [.int (-1 : Int32)]) (by decide +kernel) ml_3_63 okX3_refusal mvX3_refusal rfl (by decide) (Nat.le_of_ble_eq_true rfl) rfl rfl rfl (tX3_refusal h) (fun rr M11 qq => ?_)
    obtain ⟨r11, rfl, h⟩ := qq
    show Gx l E mX3_kind _ 14 M11 [some (.ref 0), some (.int p1), some (.int p2), none] [.int r11]
    exact Gx_iret (by decide +kernel) rfl rfl ⟨_, rfl, h⟩
def eX3_letter_0 : List xI := [(.iload_n 1, 1, 0, 0, 0)]
theorem kX3_letter_0 : xcode (xmb mX3_letter) (xmo mX3_letter) 0 eX3_letter_0 = true := by decide +kernel
def eX3_letter_11 : List xI := [(.iload_n 1, 1, 0, 0, 0), (.sipush 255, 3, 0, 0, (255))]
theorem kX3_letter_11 : xcode (xmb mX3_letter) (xmo mX3_letter) 11 eX3_letter_11 = true := by decide +kernel
def eX3_letter_30 : List xI := [(.aload_n 0, 1, 0, 0, 0), (.bipush (-6), 2, 0, 0, (-6))]
theorem kX3_letter_30 : xcode (xmb mX3_letter) (xmo mX3_letter) 30 eX3_letter_30 = true := by decide +kernel
def eX3_letter_18 : List xI := [(.aload_n 0, 1, 0, 0, 0), (.getfield 43, 3, 3, 7, 0), (.getfield 67, 3, 1, 1, 0), (.bipush 96, 2, 0, 0, (96))]
theorem kX3_letter_18 : xcode (xmb mX3_letter) (xmo mX3_letter) 18 eX3_letter_18 = true := by decide +kernel
def eX3_letter_37 : List xI := [(.aload_n 0, 1, 0, 0, 0), (.getfield 43, 3, 3, 7, 0), (.iload_n 1, 1, 0, 0, 0)]
theorem kX3_letter_37 : xcode (xmb mX3_letter) (xmo mX3_letter) 37 eX3_letter_37 = true := by decide +kernel
def eX3_letter_4 : List xI := [(.aload_n 0, 1, 0, 0, 0), (.bipush (-4), 2, 0, 0, (-4))]
theorem kX3_letter_4 : xcode (xmb mX3_letter) (xmo mX3_letter) 4 eX3_letter_4 = true := by decide +kernel
def wX3_letter_30 (p1 : Int32) (Q : Int32 → xM → Prop) (M : xM) : Prop :=
    wX3_refusal M (-6 : Int32) (fun r33 M33 => Q r33 M33)
set_option maxHeartbeats 4000000 in
set_option maxRecDepth 100000 in
theorem tX3_letter_30 {l : Launch} {E : xE} {p1 : Int32} {Q : Int32 → xM → Prop} (M : xM) (h : wX3_letter_30 p1 Q M ) : Gx l E mX3_letter (xRi Q) 30 M [some (.ref 0), none] [] := by
  unfold wX3_letter_30 at h
  refine Gx_run (es := eX3_letter_30) (P := []) (M' := M) (L' := [some (.ref 0), none]) (st' := [.int (-6 : Int32), .ref 0]) (pc' := 33) kX3_letter_30 rfl trivial rfl ?_
  refine Gx_callV (As := [.int (-6 : Int32)]) (by decide +kernel) ml_3_63 okX3_refusal mvX3_refusal rfl (by decide) (Nat.le_of_ble_eq_true rfl) rfl rfl rfl (tX3_refusal h) (fun rr M33 qq => ?_)
  obtain ⟨r33, rfl, h⟩ := qq
  show Gx l E mX3_letter _ 36 M33 [some (.ref 0), none] [.int r33]
  exact Gx_iret (by decide +kernel) rfl rfl ⟨_, rfl, h⟩
def wX3_letter (M : xM) (p1 : Int32) (Q : Int32 → xM → Prop) : Prop :=
    (((0 ≤ p1) → (((((255 : Int32) < p1) → (wX3_letter_30 p1 Q M)) ∧ ((¬ (255 : Int32) < p1) → (((((M 46 1) < (96 : Int32)) → (wX1_append M p1 (fun r42 M42 => Q r42 M42))) ∧ ((¬ (M 46 1) < (96 : Int32)) → (wX3_letter_30 p1 Q M)))))))) ∧ ((¬ 0 ≤ p1) → (wX3_refusal M (-4 : Int32) (fun r7 M7 => Q r7 M7))))
set_option maxHeartbeats 4000000 in
set_option maxRecDepth 100000 in
theorem tX3_letter {l : Launch} {E : xE} {M : xM} {p1 : Int32} {Q : Int32 → xM → Prop} (h : wX3_letter M p1 Q) : Ct l E mX3_letter [.ref 0, .int p1] M (xRi Q) := by
  refine Ct_of (by decide +kernel) rfl (Nat.le_of_ble_eq_true rfl) ?_
  unfold wX3_letter at h
  show Gx l E mX3_letter (xRi Q) 0 M [some (.ref 0), some (.int p1)] []
  refine Gx_run (es := eX3_letter_0) (P := []) (M' := M) (L' := [some (.ref 0), some (.int p1)]) (st' := [.int p1]) (pc' := 1) kX3_letter_0 rfl trivial rfl ?_
  refine Gx_if_ge (off := 10) (tgt := 11) (by decide +kernel) (by decide) (fun z => ?_) (fun z => ?_)
  · have h := h.1 z
    refine Gx_run (es := eX3_letter_11) (P := []) (M' := M) (L' := [some (.ref 0), some (.int p1)]) (st' := [.int (255 : Int32), .int p1]) (pc' := 15) kX3_letter_11 rfl trivial rfl ?_
    refine Gx_icmp_gt (off := 15) (tgt := 30) (by decide +kernel) (by decide) (fun z => ?_) (fun z => ?_)
    · have h := h.1 z
      refine Gx_mask [true, false] (L' := [some (.ref 0), none]) rfl ?_
      exact tX3_letter_30  M h
    · have h := h.2 z
      refine Gx_run (es := eX3_letter_18) (P := [xkd 0 = 3, xkd 46 = 1]) (M' := M) (L' := [some (.ref 0), some (.int p1)]) (st' := [.int (96 : Int32), .int (M 46 1)]) (pc' := 27) kX3_letter_18 rfl ⟨rfl, rfl, trivial⟩ rfl ?_
      refine Gx_icmp_lt (off := 10) (tgt := 37) (by decide +kernel) (by decide) (fun z => ?_) (fun z => ?_)
      · have h := h.1 z
        refine Gx_run (es := eX3_letter_37) (P := [xkd 0 = 3]) (M' := M) (L' := [some (.ref 0), some (.int p1)]) (st' := [.int p1, .ref 46]) (pc' := 42) kX3_letter_37 rfl ⟨rfl, trivial⟩ rfl ?_
        refine Gx_callV (As := [.int p1]) (by decide +kernel) ml_3_70 okX1_append mvX1_append rfl (by decide) (Nat.le_of_ble_eq_true rfl) rfl rfl rfl (tX1_append h) (fun rr M42 qq => ?_)
        obtain ⟨r42, rfl, h⟩ := qq
        show Gx l E mX3_letter _ 45 M42 [some (.ref 0), some (.int p1)] [.int r42]
        exact Gx_iret (by decide +kernel) rfl rfl ⟨_, rfl, h⟩
      · have h := h.2 z
        refine Gx_mask [true, false] (L' := [some (.ref 0), none]) rfl ?_
        exact tX3_letter_30  M h
  · have h := h.2 z
    refine Gx_run (es := eX3_letter_4) (P := []) (M' := M) (L' := [some (.ref 0), some (.int p1)]) (st' := [.int (-4 : Int32), .ref 0]) (pc' := 7) kX3_letter_4 rfl trivial rfl ?_
    refine Gx_callV (As := [.int (-4 : Int32)]) (by decide +kernel) ml_3_63 okX3_refusal mvX3_refusal rfl (by decide) (Nat.le_of_ble_eq_true rfl) rfl rfl rfl (tX3_refusal h) (fun rr M7 qq => ?_)
    obtain ⟨r7, rfl, h⟩ := qq
    show Gx l E mX3_letter _ 10 M7 [some (.ref 0), some (.int p1)] [.int r7]
    exact Gx_iret (by decide +kernel) rfl rfl ⟨_, rfl, h⟩
def eX3_links_0 : List xI := [(.iload_n 1, 1, 0, 0, 0), (.bipush 10, 2, 0, 0, (10))]
theorem kX3_links_0 : xcode (xmb mX3_links) (xmo mX3_links) 0 eX3_links_0 = true := by decide +kernel
def eX3_links_18 : List xI := [(.aload_n 0, 1, 0, 0, 0), (.iconst (-1), 1, 0, 0, (-1))]
theorem kX3_links_18 : xcode (xmb mX3_links) (xmo mX3_links) 18 eX3_links_18 = true := by decide +kernel
def eX3_links_9 : List xI := [(.iload_n 3, 1, 0, 0, 0), (.bipush 10, 2, 0, 0, (10))]
theorem kX3_links_9 : xcode (xmb mX3_links) (xmo mX3_links) 9 eX3_links_9 = true := by decide +kernel
def eX3_links_24 : List xI := [(.iload_n 2, 1, 0, 0, 0)]
theorem kX3_links_24 : xcode (xmb mX3_links) (xmo mX3_links) 24 eX3_links_24 = true := by decide +kernel
def eX3_links_35 : List xI := [(.iload_n 2, 1, 0, 0, 0), (.bipush 9, 2, 0, 0, (9))]
theorem kX3_links_35 : xcode (xmb mX3_links) (xmo mX3_links) 35 eX3_links_35 = true := by decide +kernel
def eX3_links_48 : List xI := [(.bipush 10, 2, 0, 0, (10)), (.aload_n 0, 1, 0, 0, 0), (.getfield 10, 3, 3, 0, 0), (.getfield 91, 3, 2, 1, 0), (.iload_n 1, 1, 0, 0, 0), (.iaload, 1, 0, 0, 0), (.imul, 1, 0, 0, 0), (.aload_n 0, 1, 0, 0, 0), (.getfield 10, 3, 3, 0, 0), (.getfield 94, 3, 2, 2, 0), (.iload_n 1, 1, 0, 0, 0), (.iaload, 1, 0, 0, 0), (.iadd, 1, 0, 0, 0), (.istore 4, 2, 0, 0, 0), (.aload_n 0, 1, 0, 0, 0), (.getfield 10, 3, 3, 0, 0), (.getfield 91, 3, 2, 1, 0), (.iload_n 1, 1, 0, 0, 0), (.iload_n 2, 1, 0, 0, 0), (.iastore, 1, 0, 0, 0), (.aload_n 0, 1, 0, 0, 0), (.getfield 10, 3, 3, 0, 0), (.getfield 94, 3, 2, 2, 0), (.iload_n 1, 1, 0, 0, 0), (.iload_n 3, 1, 0, 0, 0), (.iastore, 1, 0, 0, 0), (.iload 4, 2, 0, 0, 0)]
theorem kX3_links_48 : xcode (xmb mX3_links) (xmo mX3_links) 48 eX3_links_48 = true := by decide +kernel
def eX3_links_41 : List xI := [(.aload_n 0, 1, 0, 0, 0), (.bipush (-6), 2, 0, 0, (-6))]
theorem kX3_links_41 : xcode (xmb mX3_links) (xmo mX3_links) 41 eX3_links_41 = true := by decide +kernel
def eX3_links_28 : List xI := [(.aload_n 0, 1, 0, 0, 0), (.bipush (-4), 2, 0, 0, (-4))]
theorem kX3_links_28 : xcode (xmb mX3_links) (xmo mX3_links) 28 eX3_links_28 = true := by decide +kernel
def wX3_links_18 (p1 : Int32) (p2 : Int32) (p3 : Int32) (Q : Int32 → xM → Prop) (M : xM) : Prop :=
    wX3_refusal M (-1 : Int32) (fun r20 M20 => Q r20 M20)
set_option maxHeartbeats 4000000 in
set_option maxRecDepth 100000 in
theorem tX3_links_18 {l : Launch} {E : xE} {p1 : Int32} {p2 : Int32} {p3 : Int32} {Q : Int32 → xM → Prop} (M : xM) (h : wX3_links_18 p1 p2 p3 Q M ) : Gx l E mX3_links (xRi Q) 18 M [some (.ref 0), none, none, none, none] [] := by
  unfold wX3_links_18 at h
  refine Gx_run (es := eX3_links_18) (P := []) (M' := M) (L' := [some (.ref 0), none, none, none, none]) (st' := [.int (-1 : Int32), .ref 0]) (pc' := 20) kX3_links_18 rfl trivial rfl ?_
  refine Gx_callV (As := [.int (-1 : Int32)]) (by decide +kernel) ml_3_63 okX3_refusal mvX3_refusal rfl (by decide) (Nat.le_of_ble_eq_true rfl) rfl rfl rfl (tX3_refusal h) (fun rr M20 qq => ?_)
  obtain ⟨r20, rfl, h⟩ := qq
  show Gx l E mX3_links _ 23 M20 [some (.ref 0), none, none, none, none] [.int r20]
  exact Gx_iret (by decide +kernel) rfl rfl ⟨_, rfl, h⟩
def wX3_links (M : xM) (p1 : Int32) (p2 : Int32) (p3 : Int32) (Q : Int32 → xM → Prop) : Prop :=
    wX3_isOutside M p1 (10 : Int32) (fun r3 M3 => (((¬ r3 = 0) → (wX3_links_18 p1 p2 p3 Q M3)) ∧ ((r3 = 0) → (wX3_isOutside M3 p3 (10 : Int32) (fun r12 M12 => (((r12 = 0) → ((((0 ≤ p2) → ((((p2 ≤ (9 : Int32)) → ((vp_in p1 10) ∧ Q (((10 : Int32) * (M12 3 p1.toNatClampNeg)) + (M12 4 p1.toNatClampNeg)) (xup (xup M12 3 p1.toNatClampNeg p2) 4 p1.toNatClampNeg p3))) ∧ ((¬ p2 ≤ (9 : Int32)) → (wX3_refusal M12 (-6 : Int32) (fun r44 M44 => Q r44 M44)))))) ∧ ((¬ 0 ≤ p2) → (wX3_refusal M12 (-4 : Int32) (fun r31 M31 => Q r31 M31)))))) ∧ ((¬ r12 = 0) → (wX3_links_18 p1 p2 p3 Q M12))))))))
set_option maxHeartbeats 4000000 in
set_option maxRecDepth 100000 in
theorem tX3_links {l : Launch} {E : xE} {M : xM} {p1 : Int32} {p2 : Int32} {p3 : Int32} {Q : Int32 → xM → Prop} (h : wX3_links M p1 p2 p3 Q) : Ct l E mX3_links [.ref 0, .int p1, .int p2, .int p3] M (xRi Q) := by
  refine Ct_of (by decide +kernel) rfl (Nat.le_of_ble_eq_true rfl) ?_
  unfold wX3_links at h
  show Gx l E mX3_links (xRi Q) 0 M [some (.ref 0), some (.int p1), some (.int p2), some (.int p3), none] []
  refine Gx_run (es := eX3_links_0) (P := []) (M' := M) (L' := [some (.ref 0), some (.int p1), some (.int p2), some (.int p3), none]) (st' := [.int (10 : Int32), .int p1]) (pc' := 3) kX3_links_0 rfl trivial rfl ?_
  refine Gx_callS (As := [.int p1, .int (10 : Int32)]) (by decide +kernel) ml_3_84 okX3_isOutside mvX3_isOutside rfl (by decide) (Nat.le_of_ble_eq_true rfl) (tX3_isOutside h) (fun rr M3 qq => ?_)
  obtain ⟨r3, rfl, h⟩ := qq
  show Gx l E mX3_links _ 6 M3 [some (.ref 0), some (.int p1), some (.int p2), some (.int p3), none] [.int r3]
  refine Gx_if_ne (off := 12) (tgt := 18) (by decide +kernel) (by decide) (fun z => ?_) (fun z => ?_)
  · have h := h.1 z
    refine Gx_mask [true, false, false, false, false] (L' := [some (.ref 0), none, none, none, none]) rfl ?_
    exact tX3_links_18  M3 h
  · have h := h.2 z
    refine Gx_run (es := eX3_links_9) (P := []) (M' := M3) (L' := [some (.ref 0), some (.int p1), some (.int p2), some (.int p3), none]) (st' := [.int (10 : Int32), .int p3]) (pc' := 12) kX3_links_9 rfl trivial rfl ?_
    refine Gx_callS (As := [.int p3, .int (10 : Int32)]) (by decide +kernel) ml_3_84 okX3_isOutside mvX3_isOutside rfl (by decide) (Nat.le_of_ble_eq_true rfl) (tX3_isOutside h) (fun rr M12 qq => ?_)
    obtain ⟨r12, rfl, h⟩ := qq
    show Gx l E mX3_links _ 15 M12 [some (.ref 0), some (.int p1), some (.int p2), some (.int p3), none] [.int r12]
    refine Gx_if_eq (off := 9) (tgt := 24) (by decide +kernel) (by decide) (fun z => ?_) (fun z => ?_)
    · have h := h.1 z
      refine Gx_run (es := eX3_links_24) (P := []) (M' := M12) (L' := [some (.ref 0), some (.int p1), some (.int p2), some (.int p3), none]) (st' := [.int p2]) (pc' := 25) kX3_links_24 rfl trivial rfl ?_
      refine Gx_if_ge (off := 10) (tgt := 35) (by decide +kernel) (by decide) (fun z => ?_) (fun z => ?_)
      · have h := h.1 z
        refine Gx_run (es := eX3_links_35) (P := []) (M' := M12) (L' := [some (.ref 0), some (.int p1), some (.int p2), some (.int p3), none]) (st' := [.int (9 : Int32), .int p2]) (pc' := 38) kX3_links_35 rfl trivial rfl ?_
        refine Gx_icmp_le (off := 10) (tgt := 48) (by decide +kernel) (by decide) (fun z => ?_) (fun z => ?_)
        · have h := h.1 z
          obtain ⟨g48_0, h⟩ := h
          refine Gx_run (es := eX3_links_48) (P := [xkd 0 = 3, xkd 1 = 2, xkd 3 = 5, vp_in p1 (xln 3), xkd 0 = 3, xkd 1 = 2, xkd 4 = 5, vp_in p1 (xln 4), xkd 0 = 3, xkd 1 = 2, xkd 3 = 5, vp_in p1 (xln 3), xkd 0 = 3, xkd 1 = 2, xkd 4 = 5, vp_in p1 (xln 4)]) (M' := (xup (xup M12 3 p1.toNatClampNeg p2) 4 p1.toNatClampNeg p3)) (L' := [some (.ref 0), some (.int p1), some (.int p2), some (.int p3), some (.int (((10 : Int32) * (M12 3 p1.toNatClampNeg)) + (M12 4 p1.toNatClampNeg)))]) (st' := [.int (((10 : Int32) * (M12 3 p1.toNatClampNeg)) + (M12 4 p1.toNatClampNeg))]) (pc' := 94) kX3_links_48 rfl ⟨rfl, rfl, rfl, g48_0, rfl, rfl, rfl, g48_0, rfl, rfl, rfl, g48_0, rfl, rfl, rfl, g48_0, trivial⟩ rfl ?_
          exact Gx_iret (by decide +kernel) rfl rfl ⟨_, rfl, h⟩
        · have h := h.2 z
          refine Gx_run (es := eX3_links_41) (P := []) (M' := M12) (L' := [some (.ref 0), some (.int p1), some (.int p2), some (.int p3), none]) (st' := [.int (-6 : Int32), .ref 0]) (pc' := 44) kX3_links_41 rfl trivial rfl ?_
          refine Gx_callV (As := [.int (-6 : Int32)]) (by decide +kernel) ml_3_63 okX3_refusal mvX3_refusal rfl (by decide) (Nat.le_of_ble_eq_true rfl) rfl rfl rfl (tX3_refusal h) (fun rr M44 qq => ?_)
          obtain ⟨r44, rfl, h⟩ := qq
          show Gx l E mX3_links _ 47 M44 [some (.ref 0), some (.int p1), some (.int p2), some (.int p3), none] [.int r44]
          exact Gx_iret (by decide +kernel) rfl rfl ⟨_, rfl, h⟩
      · have h := h.2 z
        refine Gx_run (es := eX3_links_28) (P := []) (M' := M12) (L' := [some (.ref 0), some (.int p1), some (.int p2), some (.int p3), none]) (st' := [.int (-4 : Int32), .ref 0]) (pc' := 31) kX3_links_28 rfl trivial rfl ?_
        refine Gx_callV (As := [.int (-4 : Int32)]) (by decide +kernel) ml_3_63 okX3_refusal mvX3_refusal rfl (by decide) (Nat.le_of_ble_eq_true rfl) rfl rfl rfl (tX3_refusal h) (fun rr M31 qq => ?_)
        obtain ⟨r31, rfl, h⟩ := qq
        show Gx l E mX3_links _ 34 M31 [some (.ref 0), some (.int p1), some (.int p2), some (.int p3), none] [.int r31]
        exact Gx_iret (by decide +kernel) rfl rfl ⟨_, rfl, h⟩
    · have h := h.2 z
      refine Gx_mask [true, false, false, false, false] (L' := [some (.ref 0), none, none, none, none]) rfl ?_
      exact tX3_links_18  M12 h
def eX3_marks_0 : List xI := [(.iload_n 1, 1, 0, 0, 0)]
theorem kX3_marks_0 : xcode (xmb mX3_marks) (xmo mX3_marks) 0 eX3_marks_0 = true := by decide +kernel
def eX3_marks_16 : List xI := [(.iload_n 2, 1, 0, 0, 0), (.iload_n 1, 1, 0, 0, 0)]
theorem kX3_marks_16 : xcode (xmb mX3_marks) (xmo mX3_marks) 16 eX3_marks_16 = true := by decide +kernel
def eX3_marks_26 : List xI := [(.bipush 10, 2, 0, 0, (10))]
theorem kX3_marks_26 : xcode (xmb mX3_marks) (xmo mX3_marks) 26 eX3_marks_26 = true := by decide +kernel
def eX3_marks_40 : List xI := [(.iload_n 1, 1, 0, 0, 0)]
theorem kX3_marks_40 : xcode (xmb mX3_marks) (xmo mX3_marks) 40 eX3_marks_40 = true := by decide +kernel
def eX3_marks_71 : List xI := [(.aload_n 0, 1, 0, 0, 0), (.getfield 10, 3, 3, 0, 0), (.dup, 1, 0, 0, 0), (.getfield 97, 3, 2, 7, 0), (.iconst 1, 1, 0, 0, (1)), (.iload_n 2, 1, 0, 0, 0), (.ishl, 1, 0, 0, 0), (.ixor, 1, 0, 0, 0), (.putfield 97, 3, 2, 7, 0), (.aload_n 0, 1, 0, 0, 0), (.getfield 10, 3, 3, 0, 0), (.getfield 97, 3, 2, 7, 0), (.iload_n 2, 1, 0, 0, 0), (.ishr, 1, 0, 0, 0), (.iconst 1, 1, 0, 0, (1)), (.iand, 1, 0, 0, 0)]
theorem kX3_marks_71 : xcode (xmb mX3_marks) (xmo mX3_marks) 71 eX3_marks_71 = true := by decide +kernel
def eX3_marks_44 : List xI := [(.aload_n 0, 1, 0, 0, 0), (.getfield 10, 3, 3, 0, 0), (.dup, 1, 0, 0, 0), (.getfield 118, 3, 2, 6, 0), (.iconst 1, 1, 0, 0, (1)), (.iload_n 2, 1, 0, 0, 0), (.ishl, 1, 0, 0, 0), (.ixor, 1, 0, 0, 0), (.putfield 118, 3, 2, 6, 0), (.aload_n 0, 1, 0, 0, 0), (.getfield 10, 3, 3, 0, 0), (.getfield 118, 3, 2, 6, 0), (.iload_n 2, 1, 0, 0, 0), (.ishr, 1, 0, 0, 0), (.iconst 1, 1, 0, 0, (1)), (.iand, 1, 0, 0, 0)]
theorem kX3_marks_44 : xcode (xmb mX3_marks) (xmo mX3_marks) 44 eX3_marks_44 = true := by decide +kernel
def eX3_marks_34 : List xI := [(.aload_n 0, 1, 0, 0, 0), (.iconst (-1), 1, 0, 0, (-1))]
theorem kX3_marks_34 : xcode (xmb mX3_marks) (xmo mX3_marks) 34 eX3_marks_34 = true := by decide +kernel
def eX3_marks_21 : List xI := [(.bipush 24, 2, 0, 0, (24))]
theorem kX3_marks_21 : xcode (xmb mX3_marks) (xmo mX3_marks) 21 eX3_marks_21 = true := by decide +kernel
def eX3_marks_4 : List xI := [(.iload_n 1, 1, 0, 0, 0), (.iconst 1, 1, 0, 0, (1))]
theorem kX3_marks_4 : xcode (xmb mX3_marks) (xmo mX3_marks) 4 eX3_marks_4 = true := by decide +kernel
def eX3_marks_9 : List xI := [(.aload_n 0, 1, 0, 0, 0), (.bipush (-2), 2, 0, 0, (-2))]
theorem kX3_marks_9 : xcode (xmb mX3_marks) (xmo mX3_marks) 9 eX3_marks_9 = true := by decide +kernel
def wX3_marks_28 (p1 : Int32) (p2 : Int32) (Q : Int32 → xM → Prop) (M : xM) (s0 : Int32) : Prop :=
    wX3_isOutside M p2 s0 (fun r28 M28 => (((r28 = 0) → ((((¬ p1 = 0) → (Q ((((xup M28 1 7 ((M28 1 7) ^^^ ((1 : Int32) <<< (p2 &&& 31)))) 1 7) >>> (p2 &&& 31)) &&& (1 : Int32)) (xup M28 1 7 ((M28 1 7) ^^^ ((1 : Int32) <<< (p2 &&& 31)))))) ∧ ((p1 = 0) → (Q ((((xup M28 1 6 ((M28 1 6) ^^^ ((1 : Int32) <<< (p2 &&& 31)))) 1 6) >>> (p2 &&& 31)) &&& (1 : Int32)) (xup M28 1 6 ((M28 1 6) ^^^ ((1 : Int32) <<< (p2 &&& 31))))))))) ∧ ((¬ r28 = 0) → (wX3_refusal M28 (-1 : Int32) (fun r36 M36 => Q r36 M36)))))
set_option maxHeartbeats 4000000 in
set_option maxRecDepth 100000 in
theorem tX3_marks_28 {l : Launch} {E : xE} {p1 : Int32} {p2 : Int32} {Q : Int32 → xM → Prop} (M : xM) (s0 : Int32) (h : wX3_marks_28 p1 p2 Q M s0) : Gx l E mX3_marks (xRi Q) 28 M [some (.ref 0), some (.int p1), some (.int p2)] [.int s0, .int p2] := by
  unfold wX3_marks_28 at h
  refine Gx_callS (As := [.int p2, .int s0]) (by decide +kernel) ml_3_84 okX3_isOutside mvX3_isOutside rfl (by decide) (Nat.le_of_ble_eq_true rfl) (tX3_isOutside h) (fun rr M28 qq => ?_)
  obtain ⟨r28, rfl, h⟩ := qq
  show Gx l E mX3_marks _ 31 M28 [some (.ref 0), some (.int p1), some (.int p2)] [.int r28]
  refine Gx_if_eq (off := 9) (tgt := 40) (by decide +kernel) (by decide) (fun z => ?_) (fun z => ?_)
  · have h := h.1 z
    refine Gx_run (es := eX3_marks_40) (P := []) (M' := M28) (L' := [some (.ref 0), some (.int p1), some (.int p2)]) (st' := [.int p1]) (pc' := 41) kX3_marks_40 rfl trivial rfl ?_
    refine Gx_if_ne (off := 30) (tgt := 71) (by decide +kernel) (by decide) (fun z => ?_) (fun z => ?_)
    · have h := h.1 z
      refine Gx_run (es := eX3_marks_71) (P := [xkd 0 = 3, xkd 1 = 2, xkd 1 = 2, xkd 0 = 3, xkd 1 = 2]) (M' := (xup M28 1 7 ((M28 1 7) ^^^ ((1 : Int32) <<< (p2 &&& 31))))) (L' := [some (.ref 0), some (.int p1), some (.int p2)]) (st' := [.int ((((xup M28 1 7 ((M28 1 7) ^^^ ((1 : Int32) <<< (p2 &&& 31)))) 1 7) >>> (p2 &&& 31)) &&& (1 : Int32))]) (pc' := 97) kX3_marks_71 rfl ⟨rfl, rfl, rfl, rfl, rfl, trivial⟩ rfl ?_
      exact Gx_iret (by decide +kernel) rfl rfl ⟨_, rfl, h⟩
    · have h := h.2 z
      refine Gx_run (es := eX3_marks_44) (P := [xkd 0 = 3, xkd 1 = 2, xkd 1 = 2, xkd 0 = 3, xkd 1 = 2]) (M' := (xup M28 1 6 ((M28 1 6) ^^^ ((1 : Int32) <<< (p2 &&& 31))))) (L' := [some (.ref 0), some (.int p1), some (.int p2)]) (st' := [.int ((((xup M28 1 6 ((M28 1 6) ^^^ ((1 : Int32) <<< (p2 &&& 31)))) 1 6) >>> (p2 &&& 31)) &&& (1 : Int32))]) (pc' := 70) kX3_marks_44 rfl ⟨rfl, rfl, rfl, rfl, rfl, trivial⟩ rfl ?_
      exact Gx_iret (by decide +kernel) rfl rfl ⟨_, rfl, h⟩
  · have h := h.2 z
    refine Gx_run (es := eX3_marks_34) (P := []) (M' := M28) (L' := [some (.ref 0), some (.int p1), some (.int p2)]) (st' := [.int (-1 : Int32), .ref 0]) (pc' := 36) kX3_marks_34 rfl trivial rfl ?_
    refine Gx_callV (As := [.int (-1 : Int32)]) (by decide +kernel) ml_3_63 okX3_refusal mvX3_refusal rfl (by decide) (Nat.le_of_ble_eq_true rfl) rfl rfl rfl (tX3_refusal h) (fun rr M36 qq => ?_)
    obtain ⟨r36, rfl, h⟩ := qq
    show Gx l E mX3_marks _ 39 M36 [some (.ref 0), some (.int p1), some (.int p2)] [.int r36]
    exact Gx_iret (by decide +kernel) rfl rfl ⟨_, rfl, h⟩
def wX3_marks_16 (p1 : Int32) (p2 : Int32) (Q : Int32 → xM → Prop) (M : xM) : Prop :=
    (((¬ p1 = 0) → (wX3_marks_28 p1 p2 Q M (10 : Int32))) ∧ ((p1 = 0) → (wX3_marks_28 p1 p2 Q M (24 : Int32))))
set_option maxHeartbeats 4000000 in
set_option maxRecDepth 100000 in
theorem tX3_marks_16 {l : Launch} {E : xE} {p1 : Int32} {p2 : Int32} {Q : Int32 → xM → Prop} (M : xM) (h : wX3_marks_16 p1 p2 Q M ) : Gx l E mX3_marks (xRi Q) 16 M [some (.ref 0), some (.int p1), some (.int p2)] [] := by
  unfold wX3_marks_16 at h
  refine Gx_run (es := eX3_marks_16) (P := []) (M' := M) (L' := [some (.ref 0), some (.int p1), some (.int p2)]) (st' := [.int p1, .int p2]) (pc' := 18) kX3_marks_16 rfl trivial rfl ?_
  refine Gx_if_ne (off := 8) (tgt := 26) (by decide +kernel) (by decide) (fun z => ?_) (fun z => ?_)
  · have h := h.1 z
    refine Gx_run (es := eX3_marks_26) (P := []) (M' := M) (L' := [some (.ref 0), some (.int p1), some (.int p2)]) (st' := [.int (10 : Int32), .int p2]) (pc' := 28) kX3_marks_26 rfl trivial rfl ?_
    refine Gx_mask [true, true, true] (L' := [some (.ref 0), some (.int p1), some (.int p2)]) rfl ?_
    exact tX3_marks_28  M (10 : Int32) h
  · have h := h.2 z
    refine Gx_run (es := eX3_marks_21) (P := []) (M' := M) (L' := [some (.ref 0), some (.int p1), some (.int p2)]) (st' := [.int (24 : Int32), .int p2]) (pc' := 23) kX3_marks_21 rfl trivial rfl ?_
    refine Gx_goto (off := 5) (tgt := 28) (by decide +kernel) (by decide) ?_
    refine Gx_mask [true, true, true] (L' := [some (.ref 0), some (.int p1), some (.int p2)]) rfl ?_
    exact tX3_marks_28  M (24 : Int32) h
def wX3_marks (M : xM) (p1 : Int32) (p2 : Int32) (Q : Int32 → xM → Prop) : Prop :=
    (((p1 = 0) → (wX3_marks_16 p1 p2 Q M)) ∧ ((¬ p1 = 0) → ((((p1 = (1 : Int32)) → (wX3_marks_16 p1 p2 Q M)) ∧ ((¬ p1 = (1 : Int32)) → (wX3_refusal M (-2 : Int32) (fun r12 M12 => Q r12 M12)))))))
set_option maxHeartbeats 4000000 in
set_option maxRecDepth 100000 in
theorem tX3_marks {l : Launch} {E : xE} {M : xM} {p1 : Int32} {p2 : Int32} {Q : Int32 → xM → Prop} (h : wX3_marks M p1 p2 Q) : Ct l E mX3_marks [.ref 0, .int p1, .int p2] M (xRi Q) := by
  refine Ct_of (by decide +kernel) rfl (Nat.le_of_ble_eq_true rfl) ?_
  unfold wX3_marks at h
  show Gx l E mX3_marks (xRi Q) 0 M [some (.ref 0), some (.int p1), some (.int p2)] []
  refine Gx_run (es := eX3_marks_0) (P := []) (M' := M) (L' := [some (.ref 0), some (.int p1), some (.int p2)]) (st' := [.int p1]) (pc' := 1) kX3_marks_0 rfl trivial rfl ?_
  refine Gx_if_eq (off := 15) (tgt := 16) (by decide +kernel) (by decide) (fun z => ?_) (fun z => ?_)
  · have h := h.1 z
    refine Gx_mask [true, true, true] (L' := [some (.ref 0), some (.int p1), some (.int p2)]) rfl ?_
    exact tX3_marks_16  M h
  · have h := h.2 z
    refine Gx_run (es := eX3_marks_4) (P := []) (M' := M) (L' := [some (.ref 0), some (.int p1), some (.int p2)]) (st' := [.int (1 : Int32), .int p1]) (pc' := 6) kX3_marks_4 rfl trivial rfl ?_
    refine Gx_icmp_eq (off := 10) (tgt := 16) (by decide +kernel) (by decide) (fun z => ?_) (fun z => ?_)
    · have h := h.1 z
      refine Gx_mask [true, true, true] (L' := [some (.ref 0), some (.int p1), some (.int p2)]) rfl ?_
      exact tX3_marks_16  M h
    · have h := h.2 z
      refine Gx_run (es := eX3_marks_9) (P := []) (M' := M) (L' := [some (.ref 0), some (.int p1), some (.int p2)]) (st' := [.int (-2 : Int32), .ref 0]) (pc' := 12) kX3_marks_9 rfl trivial rfl ?_
      refine Gx_callV (As := [.int (-2 : Int32)]) (by decide +kernel) ml_3_63 okX3_refusal mvX3_refusal rfl (by decide) (Nat.le_of_ble_eq_true rfl) rfl rfl rfl (tX3_refusal h) (fun rr M12 qq => ?_)
      obtain ⟨r12, rfl, h⟩ := qq
      show Gx l E mX3_marks _ 15 M12 [some (.ref 0), some (.int p1), some (.int p2)] [.int r12]
      exact Gx_iret (by decide +kernel) rfl rfl ⟨_, rfl, h⟩
def eX3_partOfFraction_0 : List xI := [(.lload_n 0, 1, 0, 0, 0), (.lconst 1, 1, 0, 0, 0), (.lcmp, 1, 0, 0, 0)]
theorem kX3_partOfFraction_0 : xcode (xmb mX3_partOfFraction) (xmo mX3_partOfFraction) 0 eX3_partOfFraction_0 = true := by decide +kernel
def eX3_partOfFraction_12 : List xI := [(.iload 4, 2, 0, 0, 0)]
theorem kX3_partOfFraction_12 : xcode (xmb mX3_partOfFraction) (xmo mX3_partOfFraction) 12 eX3_partOfFraction_12 = true := by decide +kernel
def eX3_partOfFraction_21 : List xI := [(.lconst 1, 1, 0, 0, 0)]
theorem kX3_partOfFraction_21 : xcode (xmb mX3_partOfFraction) (xmo mX3_partOfFraction) 21 eX3_partOfFraction_21 = true := by decide +kernel
def eX3_partOfFraction_17 : List xI := [(.lconst 0, 1, 0, 0, 0)]
theorem kX3_partOfFraction_17 : xcode (xmb mX3_partOfFraction) (xmo mX3_partOfFraction) 17 eX3_partOfFraction_17 = true := by decide +kernel
def eX3_partOfFraction_6 : List xI := [(.lload_n 2, 1, 0, 0, 0), (.lconst 1, 1, 0, 0, 0), (.lcmp, 1, 0, 0, 0)]
theorem kX3_partOfFraction_6 : xcode (xmb mX3_partOfFraction) (xmo mX3_partOfFraction) 6 eX3_partOfFraction_6 = true := by decide +kernel
def eX3_partOfFraction_23 : List xI := [(.lload_n 0, 1, 0, 0, 0), (.lstore 5, 2, 0, 0, 0), (.lload_n 2, 1, 0, 0, 0), (.lstore 7, 2, 0, 0, 0), (.iconst 0, 1, 0, 0, (0)), (.istore 9, 2, 0, 0, 0)]
theorem kX3_partOfFraction_23 : xcode (xmb mX3_partOfFraction) (xmo mX3_partOfFraction) 23 eX3_partOfFraction_23 = true := by decide +kernel
def eX3_partOfFraction_32 : List xI := [(.iload 9, 2, 0, 0, 0), (.sipush 200, 3, 0, 0, (200))]
theorem kX3_partOfFraction_32 : xcode (xmb mX3_partOfFraction) (xmo mX3_partOfFraction) 32 eX3_partOfFraction_32 = true := by decide +kernel
def eX3_partOfFraction_68 : List xI := [(.iload 4, 2, 0, 0, 0)]
theorem kX3_partOfFraction_68 : xcode (xmb mX3_partOfFraction) (xmo mX3_partOfFraction) 68 eX3_partOfFraction_68 = true := by decide +kernel
def eX3_partOfFraction_77 : List xI := [(.lload_n 2, 1, 0, 0, 0)]
theorem kX3_partOfFraction_77 : xcode (xmb mX3_partOfFraction) (xmo mX3_partOfFraction) 77 eX3_partOfFraction_77 = true := by decide +kernel
def eX3_partOfFraction_78 : List xI := [(.lconst 1, 1, 0, 0, 0), (.lload 5, 2, 0, 0, 0)]
theorem kX3_partOfFraction_78 : xcode (xmb mX3_partOfFraction) (xmo mX3_partOfFraction) 78 eX3_partOfFraction_78 = true := by decide +kernel
def eX3_partOfFraction_84 : List xI := [(.ldiv, 1, 0, 0, 0)]
theorem kX3_partOfFraction_84 : xcode (xmb mX3_partOfFraction) (xmo mX3_partOfFraction) 84 eX3_partOfFraction_84 = true := by decide +kernel
def eX3_partOfFraction_73 : List xI := [(.lload_n 0, 1, 0, 0, 0)]
theorem kX3_partOfFraction_73 : xcode (xmb mX3_partOfFraction) (xmo mX3_partOfFraction) 73 eX3_partOfFraction_73 = true := by decide +kernel
def eX3_partOfFraction_40 : List xI := [(.lload 7, 2, 0, 0, 0), (.lconst 0, 1, 0, 0, 0), (.lcmp, 1, 0, 0, 0)]
theorem kX3_partOfFraction_40 : xcode (xmb mX3_partOfFraction) (xmo mX3_partOfFraction) 40 eX3_partOfFraction_40 = true := by decide +kernel
def eX3_partOfFraction_47 : List xI := [(.lload 5, 2, 0, 0, 0), (.lload 7, 2, 0, 0, 0), (.lrem, 1, 0, 0, 0), (.lstore 10, 2, 0, 0, 0), (.lload 7, 2, 0, 0, 0), (.lstore 5, 2, 0, 0, 0), (.lload 10, 2, 0, 0, 0), (.lstore 7, 2, 0, 0, 0), (.iinc 9 1, 3, 0, 0, (1))]
theorem kX3_partOfFraction_47 : xcode (xmb mX3_partOfFraction) (xmo mX3_partOfFraction) 47 eX3_partOfFraction_47 = true := by decide +kernel
def wX3_partOfFraction_22 (p1 : Int64) (p2 : Int64) (p3 : Int32) (Q : Int64 → xM → Prop) (M : xM) (s0 : Int64) : Prop :=
    Q s0 M
set_option maxHeartbeats 4000000 in
set_option maxRecDepth 100000 in
theorem tX3_partOfFraction_22 {l : Launch} {E : xE} {p1 : Int64} {p2 : Int64} {p3 : Int32} {Q : Int64 → xM → Prop} (M : xM) (s0 : Int64) (h : wX3_partOfFraction_22 p1 p2 p3 Q M s0) : Gx l E mX3_partOfFraction (xRj Q) 22 M [none, none, none, none, none, none, none, none, none, none, none, none] [.long s0] := by
  unfold wX3_partOfFraction_22 at h
  exact Gx_lret (by decide +kernel) rfl ⟨_, rfl, h⟩
def wX3_partOfFraction_12 (p1 : Int64) (p2 : Int64) (p3 : Int32) (Q : Int64 → xM → Prop) (M : xM) : Prop :=
    (((¬ p3 = 0) → (wX3_partOfFraction_22 p1 p2 p3 Q M (1 : Int64))) ∧ ((p3 = 0) → (wX3_partOfFraction_22 p1 p2 p3 Q M (0 : Int64))))
set_option maxHeartbeats 4000000 in
set_option maxRecDepth 100000 in
theorem tX3_partOfFraction_12 {l : Launch} {E : xE} {p1 : Int64} {p2 : Int64} {p3 : Int32} {Q : Int64 → xM → Prop} (M : xM) (h : wX3_partOfFraction_12 p1 p2 p3 Q M ) : Gx l E mX3_partOfFraction (xRj Q) 12 M [none, none, none, none, some (.int p3), none, none, none, none, none, none, none] [] := by
  unfold wX3_partOfFraction_12 at h
  refine Gx_run (es := eX3_partOfFraction_12) (P := []) (M' := M) (L' := [none, none, none, none, some (.int p3), none, none, none, none, none, none, none]) (st' := [.int p3]) (pc' := 14) kX3_partOfFraction_12 rfl trivial rfl ?_
  refine Gx_if_ne (off := 7) (tgt := 21) (by decide +kernel) (by decide) (fun z => ?_) (fun z => ?_)
  · have h := h.1 z
    refine Gx_run (es := eX3_partOfFraction_21) (P := []) (M' := M) (L' := [none, none, none, none, some (.int p3), none, none, none, none, none, none, none]) (st' := [.long (1 : Int64)]) (pc' := 22) kX3_partOfFraction_21 rfl trivial rfl ?_
    refine Gx_mask [false, false, false, false, false, false, false, false, false, false, false, false] (L' := [none, none, none, none, none, none, none, none, none, none, none, none]) rfl ?_
    exact tX3_partOfFraction_22  M (1 : Int64) h
  · have h := h.2 z
    refine Gx_run (es := eX3_partOfFraction_17) (P := []) (M' := M) (L' := [none, none, none, none, some (.int p3), none, none, none, none, none, none, none]) (st' := [.long (0 : Int64)]) (pc' := 18) kX3_partOfFraction_17 rfl trivial rfl ?_
    refine Gx_goto (off := 4) (tgt := 22) (by decide +kernel) (by decide) ?_
    refine Gx_mask [false, false, false, false, false, false, false, false, false, false, false, false] (L' := [none, none, none, none, none, none, none, none, none, none, none, none]) rfl ?_
    exact tX3_partOfFraction_22  M (0 : Int64) h
def wX3_partOfFraction_78 (p1 : Int64) (p2 : Int64) (p3 : Int32) (Q : Int64 → xM → Prop) (M : xM) (a5 : Int64) (s0 : Int64) : Prop :=
    (¬ (if a5 < (1 : Int64) then (1 : Int64) else a5) = 0) ∧ Q (s0 / (if a5 < (1 : Int64) then (1 : Int64) else a5)) M
set_option maxHeartbeats 4000000 in
set_option maxRecDepth 100000 in
theorem tX3_partOfFraction_78 {l : Launch} {E : xE} {p1 : Int64} {p2 : Int64} {p3 : Int32} {Q : Int64 → xM → Prop} (M : xM) (a5 : Int64) (s0 : Int64) (h : wX3_partOfFraction_78 p1 p2 p3 Q M a5 s0) : Gx l E mX3_partOfFraction (xRj Q) 78 M [none, none, none, none, none, some (.long a5), none, none, none, none, none, none] [.long s0] := by
  unfold wX3_partOfFraction_78 at h
  refine Gx_run (es := eX3_partOfFraction_78) (P := []) (M' := M) (L' := [none, none, none, none, none, some (.long a5), none, none, none, none, none, none]) (st' := [.long a5, .long (1 : Int64), .long s0]) (pc' := 81) kX3_partOfFraction_78 rfl trivial rfl ?_
  refine Gx_mlmax (by decide +kernel) ml_3_239 (by decide) (Nat.le_of_ble_eq_true rfl) ?_
  obtain ⟨g84_0, h⟩ := h
  refine Gx_run (es := eX3_partOfFraction_84) (P := [¬ (if a5 < (1 : Int64) then (1 : Int64) else a5) = 0]) (M' := M) (L' := [none, none, none, none, none, some (.long a5), none, none, none, none, none, none]) (st' := [.long (s0 / (if a5 < (1 : Int64) then (1 : Int64) else a5))]) (pc' := 85) kX3_partOfFraction_84 rfl ⟨g84_0, trivial⟩ rfl ?_
  exact Gx_lret (by decide +kernel) rfl ⟨_, rfl, h⟩
def wX3_partOfFraction_68 (p1 : Int64) (p2 : Int64) (p3 : Int32) (Q : Int64 → xM → Prop) (M : xM) (a5 : Int64) : Prop :=
    (((¬ p3 = 0) → (wX3_partOfFraction_78 p1 p2 p3 Q M a5 p2)) ∧ ((p3 = 0) → (wX3_partOfFraction_78 p1 p2 p3 Q M a5 p1)))
set_option maxHeartbeats 4000000 in
set_option maxRecDepth 100000 in
theorem tX3_partOfFraction_68 {l : Launch} {E : xE} {p1 : Int64} {p2 : Int64} {p3 : Int32} {Q : Int64 → xM → Prop} (M : xM) (a5 : Int64) (h : wX3_partOfFraction_68 p1 p2 p3 Q M a5) : Gx l E mX3_partOfFraction (xRj Q) 68 M [some (.long p1), none, some (.long p2), none, some (.int p3), some (.long a5), none, none, none, none, none, none] [] := by
  unfold wX3_partOfFraction_68 at h
  refine Gx_run (es := eX3_partOfFraction_68) (P := []) (M' := M) (L' := [some (.long p1), none, some (.long p2), none, some (.int p3), some (.long a5), none, none, none, none, none, none]) (st' := [.int p3]) (pc' := 70) kX3_partOfFraction_68 rfl trivial rfl ?_
  refine Gx_if_ne (off := 7) (tgt := 77) (by decide +kernel) (by decide) (fun z => ?_) (fun z => ?_)
  · have h := h.1 z
    refine Gx_run (es := eX3_partOfFraction_77) (P := []) (M' := M) (L' := [some (.long p1), none, some (.long p2), none, some (.int p3), some (.long a5), none, none, none, none, none, none]) (st' := [.long p2]) (pc' := 78) kX3_partOfFraction_77 rfl trivial rfl ?_
    refine Gx_mask [false, false, false, false, false, true, false, false, false, false, false, false] (L' := [none, none, none, none, none, some (.long a5), none, none, none, none, none, none]) rfl ?_
    exact tX3_partOfFraction_78  M a5 p2 h
  · have h := h.2 z
    refine Gx_run (es := eX3_partOfFraction_73) (P := []) (M' := M) (L' := [some (.long p1), none, some (.long p2), none, some (.int p3), some (.long a5), none, none, none, none, none, none]) (st' := [.long p1]) (pc' := 74) kX3_partOfFraction_73 rfl trivial rfl ?_
    refine Gx_goto (off := 4) (tgt := 78) (by decide +kernel) (by decide) ?_
    refine Gx_mask [false, false, false, false, false, true, false, false, false, false, false, false] (L' := [none, none, none, none, none, some (.long a5), none, none, none, none, none, none]) rfl ?_
    exact tX3_partOfFraction_78  M a5 p1 h
def lX3_partOfFraction_32 (p1 : Int64) (p2 : Int64) (p3 : Int32) (Q : Int64 → xM → Prop) : Nat → xM → Int64 → Int64 → Int32 → Prop
  | 0 => fun _ _ _ _ => False
  | n + 1 => let k32 := lX3_partOfFraction_32 p1 p2 p3 Q n; fun M a5 a7 a9 =>
    ((((200 : Int32) ≤ a9) → (wX3_partOfFraction_68 p1 p2 p3 Q M a5)) ∧ ((¬ (200 : Int32) ≤ a9) → (((((lg_cmp a7 (0 : Int64)) ≤ 0) → (wX3_partOfFraction_68 p1 p2 p3 Q M a5)) ∧ ((¬ (lg_cmp a7 (0 : Int64)) ≤ 0) → ((¬ a7 = 0) ∧ k32 M a7 (a5 - a5 / a7 * a7) (a9 + (1 : Int32))))))))
set_option maxHeartbeats 4000000 in
set_option maxRecDepth 100000 in
theorem tX3_partOfFraction_32 {l : Launch} {E : xE} {p1 : Int64} {p2 : Int64} {p3 : Int32} {Q : Int64 → xM → Prop} (n : Nat) : ∀ (M : xM) (a5 : Int64) (a7 : Int64) (a9 : Int32), lX3_partOfFraction_32 p1 p2 p3 Q n M a5 a7 a9 → Gx l E mX3_partOfFraction (xRj Q) 32 M [some (.long p1), none, some (.long p2), none, some (.int p3), some (.long a5), none, some (.long a7), none, some (.int a9), none, none] [] := by
  induction n with
  | zero => intro M a5 a7 a9 h; exact h.elim
  | succ n hk32 =>
      intro M a5 a7 a9 h
      unfold lX3_partOfFraction_32 at h
      dsimp only at h
      refine Gx_run (es := eX3_partOfFraction_32) (P := []) (M' := M) (L' := [some (.long p1), none, some (.long p2), none, some (.int p3), some (.long a5), none, some (.long a7), none, some (.int a9), none, none]) (st' := [.int (200 : Int32), .int a9]) (pc' := 37) kX3_partOfFraction_32 rfl trivial rfl ?_
      refine Gx_icmp_ge (off := 31) (tgt := 68) (by decide +kernel) (by decide) (fun z => ?_) (fun z => ?_)
      · have h := h.1 z
        refine Gx_mask [true, false, true, false, true, true, false, false, false, false, false, false] (L' := [some (.long p1), none, some (.long p2), none, some (.int p3), some (.long a5), none, none, none, none, none, none]) rfl ?_
        exact tX3_partOfFraction_68  M a5 h
      · have h := h.2 z
        refine Gx_run (es := eX3_partOfFraction_40) (P := []) (M' := M) (L' := [some (.long p1), none, some (.long p2), none, some (.int p3), some (.long a5), none, some (.long a7), none, some (.int a9), none, none]) (st' := [.int (lg_cmp a7 (0 : Int64))]) (pc' := 44) kX3_partOfFraction_40 rfl trivial rfl ?_
        refine Gx_if_le (off := 24) (tgt := 68) (by decide +kernel) (by decide) (fun z => ?_) (fun z => ?_)
        · have h := h.1 z
          refine Gx_mask [true, false, true, false, true, true, false, false, false, false, false, false] (L' := [some (.long p1), none, some (.long p2), none, some (.int p3), some (.long a5), none, none, none, none, none, none]) rfl ?_
          exact tX3_partOfFraction_68  M a5 h
        · have h := h.2 z
          obtain ⟨g47_0, h⟩ := h
          refine Gx_run (es := eX3_partOfFraction_47) (P := [¬ a7 = 0]) (M' := M) (L' := [some (.long p1), none, some (.long p2), none, some (.int p3), some (.long a7), none, some (.long (a5 - a5 / a7 * a7)), none, some (.int (a9 + (1 : Int32))), some (.long (a5 - a5 / a7 * a7)), none]) (st' := []) (pc' := 65) kX3_partOfFraction_47 rfl ⟨g47_0, trivial⟩ rfl ?_
          refine Gx_goto (off := -33) (tgt := 32) (by decide +kernel) (by decide) ?_
          refine Gx_mask [true, false, true, false, true, true, false, true, false, true, false, false] (L' := [some (.long p1), none, some (.long p2), none, some (.int p3), some (.long a7), none, some (.long (a5 - a5 / a7 * a7)), none, some (.int (a9 + (1 : Int32))), none, none]) rfl ?_
          exact hk32 M a7 (a5 - a5 / a7 * a7) (a9 + (1 : Int32)) h
def wX3_partOfFraction (M : xM) (p1 : Int64) (p2 : Int64) (p3 : Int32) (Q : Int64 → xM → Prop) : Prop :=
    ((((lg_cmp p1 (1 : Int64)) < 0) → (wX3_partOfFraction_12 p1 p2 p3 Q M)) ∧ ((¬ (lg_cmp p1 (1 : Int64)) < 0) → ((((0 ≤ (lg_cmp p2 (1 : Int64))) → ((∃ n : Nat, lX3_partOfFraction_32 p1 p2 p3 Q n M p1 p2 (0 : Int32)))) ∧ ((¬ 0 ≤ (lg_cmp p2 (1 : Int64))) → (wX3_partOfFraction_12 p1 p2 p3 Q M))))))
set_option maxHeartbeats 4000000 in
set_option maxRecDepth 100000 in
theorem tX3_partOfFraction {l : Launch} {E : xE} {M : xM} {p1 : Int64} {p2 : Int64} {p3 : Int32} {Q : Int64 → xM → Prop} (h : wX3_partOfFraction M p1 p2 p3 Q) : Ct l E mX3_partOfFraction [.long p1, .long p2, .int p3] M (xRj Q) := by
  refine Ct_of (by decide +kernel) rfl (Nat.le_of_ble_eq_true rfl) ?_
  unfold wX3_partOfFraction at h
  show Gx l E mX3_partOfFraction (xRj Q) 0 M [some (.long p1), none, some (.long p2), none, some (.int p3), none, none, none, none, none, none, none] []
  refine Gx_run (es := eX3_partOfFraction_0) (P := []) (M' := M) (L' := [some (.long p1), none, some (.long p2), none, some (.int p3), none, none, none, none, none, none, none]) (st' := [.int (lg_cmp p1 (1 : Int64))]) (pc' := 3) kX3_partOfFraction_0 rfl trivial rfl ?_
  refine Gx_if_lt (off := 9) (tgt := 12) (by decide +kernel) (by decide) (fun z => ?_) (fun z => ?_)
  · have h := h.1 z
    refine Gx_mask [false, false, false, false, true, false, false, false, false, false, false, false] (L' := [none, none, none, none, some (.int p3), none, none, none, none, none, none, none]) rfl ?_
    exact tX3_partOfFraction_12  M h
  · have h := h.2 z
    refine Gx_run (es := eX3_partOfFraction_6) (P := []) (M' := M) (L' := [some (.long p1), none, some (.long p2), none, some (.int p3), none, none, none, none, none, none, none]) (st' := [.int (lg_cmp p2 (1 : Int64))]) (pc' := 9) kX3_partOfFraction_6 rfl trivial rfl ?_
    refine Gx_if_ge (off := 14) (tgt := 23) (by decide +kernel) (by decide) (fun z => ?_) (fun z => ?_)
    · have h := h.1 z
      refine Gx_run (es := eX3_partOfFraction_23) (P := []) (M' := M) (L' := [some (.long p1), none, some (.long p2), none, some (.int p3), some (.long p1), none, some (.long p2), none, some (.int (0 : Int32)), none, none]) (st' := []) (pc' := 32) kX3_partOfFraction_23 rfl trivial rfl ?_
      refine Gx_mask [true, false, true, false, true, true, false, true, false, true, false, false] (L' := [some (.long p1), none, some (.long p2), none, some (.int p3), some (.long p1), none, some (.long p2), none, some (.int (0 : Int32)), none, none]) rfl ?_
      obtain ⟨n, h⟩ := h
      exact tX3_partOfFraction_32  n M p1 p2 (0 : Int32) h
    · have h := h.2 z
      refine Gx_mask [false, false, false, false, true, false, false, false, false, false, false, false] (L' := [none, none, none, none, some (.int p3), none, none, none, none, none, none, none]) rfl ?_
      exact tX3_partOfFraction_12  M h
def eX3_pointer_0 : List xI := [(.iload_n 1, 1, 0, 0, 0), (.bipush 10, 2, 0, 0, (10))]
theorem kX3_pointer_0 : xcode (xmb mX3_pointer) (xmo mX3_pointer) 0 eX3_pointer_0 = true := by decide +kernel
def eX3_pointer_17 : List xI := [(.aload_n 0, 1, 0, 0, 0), (.iconst (-1), 1, 0, 0, (-1))]
theorem kX3_pointer_17 : xcode (xmb mX3_pointer) (xmo mX3_pointer) 17 eX3_pointer_17 = true := by decide +kernel
def eX3_pointer_9 : List xI := [(.iload_n 2, 1, 0, 0, 0), (.iconst 3, 1, 0, 0, (3))]
theorem kX3_pointer_9 : xcode (xmb mX3_pointer) (xmo mX3_pointer) 9 eX3_pointer_9 = true := by decide +kernel
def eX3_pointer_23 : List xI := [(.aload_n 0, 1, 0, 0, 0), (.getfield 10, 3, 3, 0, 0), (.getfield 109, 3, 2, 3, 0), (.iconst 3, 1, 0, 0, (3)), (.iload_n 1, 1, 0, 0, 0), (.imul, 1, 0, 0, 0), (.iload_n 2, 1, 0, 0, 0), (.iadd, 1, 0, 0, 0), (.iaload, 1, 0, 0, 0)]
theorem kX3_pointer_23 : xcode (xmb mX3_pointer) (xmo mX3_pointer) 23 eX3_pointer_23 = true := by decide +kernel
def wX3_pointer_17 (p1 : Int32) (p2 : Int32) (Q : Int32 → xM → Prop) (M : xM) : Prop :=
    wX3_refusal M (-1 : Int32) (fun r19 M19 => Q r19 M19)
set_option maxHeartbeats 4000000 in
set_option maxRecDepth 100000 in
theorem tX3_pointer_17 {l : Launch} {E : xE} {p1 : Int32} {p2 : Int32} {Q : Int32 → xM → Prop} (M : xM) (h : wX3_pointer_17 p1 p2 Q M ) : Gx l E mX3_pointer (xRi Q) 17 M [some (.ref 0), none, none] [] := by
  unfold wX3_pointer_17 at h
  refine Gx_run (es := eX3_pointer_17) (P := []) (M' := M) (L' := [some (.ref 0), none, none]) (st' := [.int (-1 : Int32), .ref 0]) (pc' := 19) kX3_pointer_17 rfl trivial rfl ?_
  refine Gx_callV (As := [.int (-1 : Int32)]) (by decide +kernel) ml_3_63 okX3_refusal mvX3_refusal rfl (by decide) (Nat.le_of_ble_eq_true rfl) rfl rfl rfl (tX3_refusal h) (fun rr M19 qq => ?_)
  obtain ⟨r19, rfl, h⟩ := qq
  show Gx l E mX3_pointer _ 22 M19 [some (.ref 0), none, none] [.int r19]
  exact Gx_iret (by decide +kernel) rfl rfl ⟨_, rfl, h⟩
def wX3_pointer (M : xM) (p1 : Int32) (p2 : Int32) (Q : Int32 → xM → Prop) : Prop :=
    wX3_isOutside M p1 (10 : Int32) (fun r3 M3 => (((¬ r3 = 0) → (wX3_pointer_17 p1 p2 Q M3)) ∧ ((r3 = 0) → (wX3_isOutside M3 p2 (3 : Int32) (fun r11 M11 => (((r11 = 0) → ((vp_in (((3 : Int32) * p1) + p2) 30) ∧ Q (M11 5 (((3 : Int32) * p1) + p2).toNatClampNeg) M11)) ∧ ((¬ r11 = 0) → (wX3_pointer_17 p1 p2 Q M11))))))))
set_option maxHeartbeats 4000000 in
set_option maxRecDepth 100000 in
theorem tX3_pointer {l : Launch} {E : xE} {M : xM} {p1 : Int32} {p2 : Int32} {Q : Int32 → xM → Prop} (h : wX3_pointer M p1 p2 Q) : Ct l E mX3_pointer [.ref 0, .int p1, .int p2] M (xRi Q) := by
  refine Ct_of (by decide +kernel) rfl (Nat.le_of_ble_eq_true rfl) ?_
  unfold wX3_pointer at h
  show Gx l E mX3_pointer (xRi Q) 0 M [some (.ref 0), some (.int p1), some (.int p2)] []
  refine Gx_run (es := eX3_pointer_0) (P := []) (M' := M) (L' := [some (.ref 0), some (.int p1), some (.int p2)]) (st' := [.int (10 : Int32), .int p1]) (pc' := 3) kX3_pointer_0 rfl trivial rfl ?_
  refine Gx_callS (As := [.int p1, .int (10 : Int32)]) (by decide +kernel) ml_3_84 okX3_isOutside mvX3_isOutside rfl (by decide) (Nat.le_of_ble_eq_true rfl) (tX3_isOutside h) (fun rr M3 qq => ?_)
  obtain ⟨r3, rfl, h⟩ := qq
  show Gx l E mX3_pointer _ 6 M3 [some (.ref 0), some (.int p1), some (.int p2)] [.int r3]
  refine Gx_if_ne (off := 11) (tgt := 17) (by decide +kernel) (by decide) (fun z => ?_) (fun z => ?_)
  · have h := h.1 z
    refine Gx_mask [true, false, false] (L' := [some (.ref 0), none, none]) rfl ?_
    exact tX3_pointer_17  M3 h
  · have h := h.2 z
    refine Gx_run (es := eX3_pointer_9) (P := []) (M' := M3) (L' := [some (.ref 0), some (.int p1), some (.int p2)]) (st' := [.int (3 : Int32), .int p2]) (pc' := 11) kX3_pointer_9 rfl trivial rfl ?_
    refine Gx_callS (As := [.int p2, .int (3 : Int32)]) (by decide +kernel) ml_3_84 okX3_isOutside mvX3_isOutside rfl (by decide) (Nat.le_of_ble_eq_true rfl) (tX3_isOutside h) (fun rr M11 qq => ?_)
    obtain ⟨r11, rfl, h⟩ := qq
    show Gx l E mX3_pointer _ 14 M11 [some (.ref 0), some (.int p1), some (.int p2)] [.int r11]
    refine Gx_if_eq (off := 9) (tgt := 23) (by decide +kernel) (by decide) (fun z => ?_) (fun z => ?_)
    · have h := h.1 z
      obtain ⟨g23_0, h⟩ := h
      refine Gx_run (es := eX3_pointer_23) (P := [xkd 0 = 3, xkd 1 = 2, xkd 5 = 5, vp_in (((3 : Int32) * p1) + p2) (xln 5)]) (M' := M11) (L' := [some (.ref 0), some (.int p1), some (.int p2)]) (st' := [.int (M11 5 (((3 : Int32) * p1) + p2).toNatClampNeg)]) (pc' := 36) kX3_pointer_23 rfl ⟨rfl, rfl, rfl, g23_0, trivial⟩ rfl ?_
      exact Gx_iret (by decide +kernel) rfl rfl ⟨_, rfl, h⟩
    · have h := h.2 z
      refine Gx_mask [true, false, false] (L' := [some (.ref 0), none, none]) rfl ?_
      exact tX3_pointer_17  M11 h
def eX3_points_0 : List xI := [(.iload_n 1, 1, 0, 0, 0), (.bipush 10, 2, 0, 0, (10))]
theorem kX3_points_0 : xcode (xmb mX3_points) (xmo mX3_points) 0 eX3_points_0 = true := by decide +kernel
def eX3_points_17 : List xI := [(.aload_n 0, 1, 0, 0, 0), (.iconst (-1), 1, 0, 0, (-1))]
theorem kX3_points_17 : xcode (xmb mX3_points) (xmo mX3_points) 17 eX3_points_17 = true := by decide +kernel
def eX3_points_9 : List xI := [(.iload_n 2, 1, 0, 0, 0), (.iconst 3, 1, 0, 0, (3))]
theorem kX3_points_9 : xcode (xmb mX3_points) (xmo mX3_points) 9 eX3_points_9 = true := by decide +kernel
def eX3_points_23 : List xI := [(.iload_n 3, 1, 0, 0, 0)]
theorem kX3_points_23 : xcode (xmb mX3_points) (xmo mX3_points) 23 eX3_points_23 = true := by decide +kernel
def eX3_points_34 : List xI := [(.iload_n 3, 1, 0, 0, 0), (.bipush 99, 2, 0, 0, (99))]
theorem kX3_points_34 : xcode (xmb mX3_points) (xmo mX3_points) 34 eX3_points_34 = true := by decide +kernel
def eX3_points_47 : List xI := [(.aload_n 0, 1, 0, 0, 0), (.getfield 10, 3, 3, 0, 0), (.iload_n 1, 1, 0, 0, 0), (.iload_n 2, 1, 0, 0, 0), (.iload_n 3, 1, 0, 0, 0)]
theorem kX3_points_47 : xcode (xmb mX3_points) (xmo mX3_points) 47 eX3_points_47 = true := by decide +kernel
def eX3_points_57 : List xI := [(.iconst 1, 1, 0, 0, (1))]
theorem kX3_points_57 : xcode (xmb mX3_points) (xmo mX3_points) 57 eX3_points_57 = true := by decide +kernel
def eX3_points_40 : List xI := [(.aload_n 0, 1, 0, 0, 0), (.bipush (-6), 2, 0, 0, (-6))]
theorem kX3_points_40 : xcode (xmb mX3_points) (xmo mX3_points) 40 eX3_points_40 = true := by decide +kernel
def eX3_points_27 : List xI := [(.aload_n 0, 1, 0, 0, 0), (.bipush (-4), 2, 0, 0, (-4))]
theorem kX3_points_27 : xcode (xmb mX3_points) (xmo mX3_points) 27 eX3_points_27 = true := by decide +kernel
def wX3_points_17 (p1 : Int32) (p2 : Int32) (p3 : Int32) (Q : Int32 → xM → Prop) (M : xM) : Prop :=
    wX3_refusal M (-1 : Int32) (fun r19 M19 => Q r19 M19)
set_option maxHeartbeats 4000000 in
set_option maxRecDepth 100000 in
theorem tX3_points_17 {l : Launch} {E : xE} {p1 : Int32} {p2 : Int32} {p3 : Int32} {Q : Int32 → xM → Prop} (M : xM) (h : wX3_points_17 p1 p2 p3 Q M ) : Gx l E mX3_points (xRi Q) 17 M [some (.ref 0), none, none, none] [] := by
  unfold wX3_points_17 at h
  refine Gx_run (es := eX3_points_17) (P := []) (M' := M) (L' := [some (.ref 0), none, none, none]) (st' := [.int (-1 : Int32), .ref 0]) (pc' := 19) kX3_points_17 rfl trivial rfl ?_
  refine Gx_callV (As := [.int (-1 : Int32)]) (by decide +kernel) ml_3_63 okX3_refusal mvX3_refusal rfl (by decide) (Nat.le_of_ble_eq_true rfl) rfl rfl rfl (tX3_refusal h) (fun rr M19 qq => ?_)
  obtain ⟨r19, rfl, h⟩ := qq
  show Gx l E mX3_points _ 22 M19 [some (.ref 0), none, none, none] [.int r19]
  exact Gx_iret (by decide +kernel) rfl rfl ⟨_, rfl, h⟩
def wX3_points (M : xM) (p1 : Int32) (p2 : Int32) (p3 : Int32) (Q : Int32 → xM → Prop) : Prop :=
    wX3_isOutside M p1 (10 : Int32) (fun r3 M3 => (((¬ r3 = 0) → (wX3_points_17 p1 p2 p3 Q M3)) ∧ ((r3 = 0) → (wX3_isOutside M3 p2 (3 : Int32) (fun r11 M11 => (((r11 = 0) → ((((0 ≤ p3) → ((((p3 ≤ (99 : Int32)) → (wX2_pointAt M11 1 p1 p2 p3 (fun M54 => Q (1 : Int32) M54))) ∧ ((¬ p3 ≤ (99 : Int32)) → (wX3_refusal M11 (-6 : Int32) (fun r43 M43 => Q r43 M43)))))) ∧ ((¬ 0 ≤ p3) → (wX3_refusal M11 (-4 : Int32) (fun r30 M30 => Q r30 M30)))))) ∧ ((¬ r11 = 0) → (wX3_points_17 p1 p2 p3 Q M11))))))))
set_option maxHeartbeats 4000000 in
set_option maxRecDepth 100000 in
theorem tX3_points {l : Launch} {E : xE} {M : xM} {p1 : Int32} {p2 : Int32} {p3 : Int32} {Q : Int32 → xM → Prop} (h : wX3_points M p1 p2 p3 Q) : Ct l E mX3_points [.ref 0, .int p1, .int p2, .int p3] M (xRi Q) := by
  refine Ct_of (by decide +kernel) rfl (Nat.le_of_ble_eq_true rfl) ?_
  unfold wX3_points at h
  show Gx l E mX3_points (xRi Q) 0 M [some (.ref 0), some (.int p1), some (.int p2), some (.int p3)] []
  refine Gx_run (es := eX3_points_0) (P := []) (M' := M) (L' := [some (.ref 0), some (.int p1), some (.int p2), some (.int p3)]) (st' := [.int (10 : Int32), .int p1]) (pc' := 3) kX3_points_0 rfl trivial rfl ?_
  refine Gx_callS (As := [.int p1, .int (10 : Int32)]) (by decide +kernel) ml_3_84 okX3_isOutside mvX3_isOutside rfl (by decide) (Nat.le_of_ble_eq_true rfl) (tX3_isOutside h) (fun rr M3 qq => ?_)
  obtain ⟨r3, rfl, h⟩ := qq
  show Gx l E mX3_points _ 6 M3 [some (.ref 0), some (.int p1), some (.int p2), some (.int p3)] [.int r3]
  refine Gx_if_ne (off := 11) (tgt := 17) (by decide +kernel) (by decide) (fun z => ?_) (fun z => ?_)
  · have h := h.1 z
    refine Gx_mask [true, false, false, false] (L' := [some (.ref 0), none, none, none]) rfl ?_
    exact tX3_points_17  M3 h
  · have h := h.2 z
    refine Gx_run (es := eX3_points_9) (P := []) (M' := M3) (L' := [some (.ref 0), some (.int p1), some (.int p2), some (.int p3)]) (st' := [.int (3 : Int32), .int p2]) (pc' := 11) kX3_points_9 rfl trivial rfl ?_
    refine Gx_callS (As := [.int p2, .int (3 : Int32)]) (by decide +kernel) ml_3_84 okX3_isOutside mvX3_isOutside rfl (by decide) (Nat.le_of_ble_eq_true rfl) (tX3_isOutside h) (fun rr M11 qq => ?_)
    obtain ⟨r11, rfl, h⟩ := qq
    show Gx l E mX3_points _ 14 M11 [some (.ref 0), some (.int p1), some (.int p2), some (.int p3)] [.int r11]
    refine Gx_if_eq (off := 9) (tgt := 23) (by decide +kernel) (by decide) (fun z => ?_) (fun z => ?_)
    · have h := h.1 z
      refine Gx_run (es := eX3_points_23) (P := []) (M' := M11) (L' := [some (.ref 0), some (.int p1), some (.int p2), some (.int p3)]) (st' := [.int p3]) (pc' := 24) kX3_points_23 rfl trivial rfl ?_
      refine Gx_if_ge (off := 10) (tgt := 34) (by decide +kernel) (by decide) (fun z => ?_) (fun z => ?_)
      · have h := h.1 z
        refine Gx_run (es := eX3_points_34) (P := []) (M' := M11) (L' := [some (.ref 0), some (.int p1), some (.int p2), some (.int p3)]) (st' := [.int (99 : Int32), .int p3]) (pc' := 37) kX3_points_34 rfl trivial rfl ?_
        refine Gx_icmp_le (off := 10) (tgt := 47) (by decide +kernel) (by decide) (fun z => ?_) (fun z => ?_)
        · have h := h.1 z
          refine Gx_run (es := eX3_points_47) (P := [xkd 0 = 3]) (M' := M11) (L' := [some (.ref 0), some (.int p1), some (.int p2), some (.int p3)]) (st' := [.int p3, .int p2, .int p1, .ref 1]) (pc' := 54) kX3_points_47 rfl ⟨rfl, trivial⟩ rfl ?_
          refine Gx_callV (As := [.int p1, .int p2, .int p3]) (by decide +kernel) ml_3_124 okX2_pointAt mvX2_pointAt rfl (by decide) (Nat.le_of_ble_eq_true rfl) rfl rfl rfl (tX2_pointAt xVol_at1 h) (fun rr M54 qq => ?_)
          obtain ⟨rfl, h⟩ := qq
          show Gx l E mX3_points _ 57 M54 [some (.ref 0), some (.int p1), some (.int p2), some (.int p3)] []
          refine Gx_run (es := eX3_points_57) (P := []) (M' := M54) (L' := [some (.ref 0), some (.int p1), some (.int p2), some (.int p3)]) (st' := [.int (1 : Int32)]) (pc' := 58) kX3_points_57 rfl trivial rfl ?_
          exact Gx_iret (by decide +kernel) rfl rfl ⟨_, rfl, h⟩
        · have h := h.2 z
          refine Gx_run (es := eX3_points_40) (P := []) (M' := M11) (L' := [some (.ref 0), some (.int p1), some (.int p2), some (.int p3)]) (st' := [.int (-6 : Int32), .ref 0]) (pc' := 43) kX3_points_40 rfl trivial rfl ?_
          refine Gx_callV (As := [.int (-6 : Int32)]) (by decide +kernel) ml_3_63 okX3_refusal mvX3_refusal rfl (by decide) (Nat.le_of_ble_eq_true rfl) rfl rfl rfl (tX3_refusal h) (fun rr M43 qq => ?_)
          obtain ⟨r43, rfl, h⟩ := qq
          show Gx l E mX3_points _ 46 M43 [some (.ref 0), some (.int p1), some (.int p2), some (.int p3)] [.int r43]
          exact Gx_iret (by decide +kernel) rfl rfl ⟨_, rfl, h⟩
      · have h := h.2 z
        refine Gx_run (es := eX3_points_27) (P := []) (M' := M11) (L' := [some (.ref 0), some (.int p1), some (.int p2), some (.int p3)]) (st' := [.int (-4 : Int32), .ref 0]) (pc' := 30) kX3_points_27 rfl trivial rfl ?_
        refine Gx_callV (As := [.int (-4 : Int32)]) (by decide +kernel) ml_3_63 okX3_refusal mvX3_refusal rfl (by decide) (Nat.le_of_ble_eq_true rfl) rfl rfl rfl (tX3_refusal h) (fun rr M30 qq => ?_)
        obtain ⟨r30, rfl, h⟩ := qq
        show Gx l E mX3_points _ 33 M30 [some (.ref 0), some (.int p1), some (.int p2), some (.int p3)] [.int r30]
        exact Gx_iret (by decide +kernel) rfl rfl ⟨_, rfl, h⟩
    · have h := h.2 z
      refine Gx_mask [true, false, false, false] (L' := [some (.ref 0), none, none, none]) rfl ?_
      exact tX3_points_17  M11 h
def eX3_refuses_0 : List xI := [(.iload_n 1, 1, 0, 0, 0), (.bipush 17, 2, 0, 0, (17))]
theorem kX3_refuses_0 : xcode (xmb mX3_refuses) (xmo mX3_refuses) 0 eX3_refuses_0 = true := by decide +kernel
def eX3_refuses_18 : List xI := [(.aload_n 0, 1, 0, 0, 0), (.bipush (-2), 2, 0, 0, (-2))]
theorem kX3_refuses_18 : xcode (xmb mX3_refuses) (xmo mX3_refuses) 18 eX3_refuses_18 = true := by decide +kernel
def eX3_refuses_9 : List xI := [(.ldc 132, 2, 0, 0, (118800)), (.iload_n 1, 1, 0, 0, 0), (.ishr, 1, 0, 0, 0), (.iconst 1, 1, 0, 0, (1)), (.iand, 1, 0, 0, 0)]
theorem kX3_refuses_9 : xcode (xmb mX3_refuses) (xmo mX3_refuses) 9 eX3_refuses_9 = true := by decide +kernel
def eX3_refuses_25 : List xI := [(.aload_n 0, 1, 0, 0, 0), (.dup, 1, 0, 0, 0), (.getfield 57, 3, 3, 11, 0), (.iconst 1, 1, 0, 0, (1)), (.iload_n 1, 1, 0, 0, 0), (.ishl, 1, 0, 0, 0), (.ixor, 1, 0, 0, 0), (.putfield 57, 3, 3, 11, 0), (.aload_n 0, 1, 0, 0, 0), (.getfield 57, 3, 3, 11, 0), (.iload_n 1, 1, 0, 0, 0), (.ishr, 1, 0, 0, 0), (.iconst 1, 1, 0, 0, (1)), (.iand, 1, 0, 0, 0)]
theorem kX3_refuses_25 : xcode (xmb mX3_refuses) (xmo mX3_refuses) 25 eX3_refuses_25 = true := by decide +kernel
def wX3_refuses_18 (p1 : Int32) (Q : Int32 → xM → Prop) (M : xM) : Prop :=
    wX3_refusal M (-2 : Int32) (fun r21 M21 => Q r21 M21)
set_option maxHeartbeats 4000000 in
set_option maxRecDepth 100000 in
theorem tX3_refuses_18 {l : Launch} {E : xE} {p1 : Int32} {Q : Int32 → xM → Prop} (M : xM) (h : wX3_refuses_18 p1 Q M ) : Gx l E mX3_refuses (xRi Q) 18 M [some (.ref 0), none] [] := by
  unfold wX3_refuses_18 at h
  refine Gx_run (es := eX3_refuses_18) (P := []) (M' := M) (L' := [some (.ref 0), none]) (st' := [.int (-2 : Int32), .ref 0]) (pc' := 21) kX3_refuses_18 rfl trivial rfl ?_
  refine Gx_callV (As := [.int (-2 : Int32)]) (by decide +kernel) ml_3_63 okX3_refusal mvX3_refusal rfl (by decide) (Nat.le_of_ble_eq_true rfl) rfl rfl rfl (tX3_refusal h) (fun rr M21 qq => ?_)
  obtain ⟨r21, rfl, h⟩ := qq
  show Gx l E mX3_refuses _ 24 M21 [some (.ref 0), none] [.int r21]
  exact Gx_iret (by decide +kernel) rfl rfl ⟨_, rfl, h⟩
def wX3_refuses (M : xM) (p1 : Int32) (Q : Int32 → xM → Prop) : Prop :=
    wX3_isOutside M p1 (17 : Int32) (fun r3 M3 => (((¬ r3 = 0) → (wX3_refuses_18 p1 Q M3)) ∧ ((r3 = 0) → ((((¬ (((118800 : Int32) >>> (p1 &&& 31)) &&& (1 : Int32)) = 0) → (Q ((((xup M3 0 11 ((M3 0 11) ^^^ ((1 : Int32) <<< (p1 &&& 31)))) 0 11) >>> (p1 &&& 31)) &&& (1 : Int32)) (xup M3 0 11 ((M3 0 11) ^^^ ((1 : Int32) <<< (p1 &&& 31)))))) ∧ (((((118800 : Int32) >>> (p1 &&& 31)) &&& (1 : Int32)) = 0) → (wX3_refuses_18 p1 Q M3)))))))
set_option maxHeartbeats 4000000 in
set_option maxRecDepth 100000 in
theorem tX3_refuses {l : Launch} {E : xE} {M : xM} {p1 : Int32} {Q : Int32 → xM → Prop} (h : wX3_refuses M p1 Q) : Ct l E mX3_refuses [.ref 0, .int p1] M (xRi Q) := by
  refine Ct_of (by decide +kernel) rfl (Nat.le_of_ble_eq_true rfl) ?_
  unfold wX3_refuses at h
  show Gx l E mX3_refuses (xRi Q) 0 M [some (.ref 0), some (.int p1)] []
  refine Gx_run (es := eX3_refuses_0) (P := []) (M' := M) (L' := [some (.ref 0), some (.int p1)]) (st' := [.int (17 : Int32), .int p1]) (pc' := 3) kX3_refuses_0 rfl trivial rfl ?_
  refine Gx_callS (As := [.int p1, .int (17 : Int32)]) (by decide +kernel) ml_3_84 okX3_isOutside mvX3_isOutside rfl (by decide) (Nat.le_of_ble_eq_true rfl) (tX3_isOutside h) (fun rr M3 qq => ?_)
  obtain ⟨r3, rfl, h⟩ := qq
  show Gx l E mX3_refuses _ 6 M3 [some (.ref 0), some (.int p1)] [.int r3]
  refine Gx_if_ne (off := 12) (tgt := 18) (by decide +kernel) (by decide) (fun z => ?_) (fun z => ?_)
  · have h := h.1 z
    refine Gx_mask [true, false] (L' := [some (.ref 0), none]) rfl ?_
    exact tX3_refuses_18  M3 h
  · have h := h.2 z
    refine Gx_run (es := eX3_refuses_9) (P := []) (M' := M3) (L' := [some (.ref 0), some (.int p1)]) (st' := [.int (((118800 : Int32) >>> (p1 &&& 31)) &&& (1 : Int32))]) (pc' := 15) kX3_refuses_9 rfl trivial rfl ?_
    refine Gx_if_ne (off := 10) (tgt := 25) (by decide +kernel) (by decide) (fun z => ?_) (fun z => ?_)
    · have h := h.1 z
      refine Gx_run (es := eX3_refuses_25) (P := [xkd 0 = 3, xkd 0 = 3, xkd 0 = 3]) (M' := (xup M3 0 11 ((M3 0 11) ^^^ ((1 : Int32) <<< (p1 &&& 31))))) (L' := [some (.ref 0), some (.int p1)]) (st' := [.int ((((xup M3 0 11 ((M3 0 11) ^^^ ((1 : Int32) <<< (p1 &&& 31)))) 0 11) >>> (p1 &&& 31)) &&& (1 : Int32))]) (pc' := 45) kX3_refuses_25 rfl ⟨rfl, rfl, rfl, trivial⟩ rfl ?_
      exact Gx_iret (by decide +kernel) rfl rfl ⟨_, rfl, h⟩
    · have h := h.2 z
      refine Gx_mask [true, false] (L' := [some (.ref 0), none]) rfl ?_
      exact tX3_refuses_18  M3 h
def eX3_row_0 : List xI := [(.iload_n 1, 1, 0, 0, 0)]
theorem kX3_row_0 : xcode (xmb mX3_row) (xmo mX3_row) 0 eX3_row_0 = true := by decide +kernel
def eX3_row_11 : List xI := [(.iload_n 1, 1, 0, 0, 0), (.bipush 99, 2, 0, 0, (99))]
theorem kX3_row_11 : xcode (xmb mX3_row) (xmo mX3_row) 11 eX3_row_11 = true := by decide +kernel
def eX3_row_26 : List xI := [(.aload_n 0, 1, 0, 0, 0), (.bipush (-6), 2, 0, 0, (-6))]
theorem kX3_row_26 : xcode (xmb mX3_row) (xmo mX3_row) 26 eX3_row_26 = true := by decide +kernel
def eX3_row_17 : List xI := [(.aload_n 0, 1, 0, 0, 0), (.getfield 51, 3, 3, 9, 0), (.bipush 32, 2, 0, 0, (32))]
theorem kX3_row_17 : xcode (xmb mX3_row) (xmo mX3_row) 17 eX3_row_17 = true := by decide +kernel
def eX3_row_33 : List xI := [(.aload_n 0, 1, 0, 0, 0), (.getfield 47, 3, 3, 8, 0), (.aload_n 0, 1, 0, 0, 0), (.getfield 51, 3, 3, 9, 0), (.iload_n 1, 1, 0, 0, 0), (.iastore, 1, 0, 0, 0), (.aload_n 0, 1, 0, 0, 0), (.dup, 1, 0, 0, 0), (.getfield 51, 3, 3, 9, 0), (.iconst 1, 1, 0, 0, (1)), (.iadd, 1, 0, 0, 0), (.putfield 51, 3, 3, 9, 0), (.aload_n 0, 1, 0, 0, 0), (.getfield 51, 3, 3, 9, 0)]
theorem kX3_row_33 : xcode (xmb mX3_row) (xmo mX3_row) 33 eX3_row_33 = true := by decide +kernel
def eX3_row_4 : List xI := [(.aload_n 0, 1, 0, 0, 0), (.bipush (-4), 2, 0, 0, (-4))]
theorem kX3_row_4 : xcode (xmb mX3_row) (xmo mX3_row) 4 eX3_row_4 = true := by decide +kernel
def wX3_row_26 (p1 : Int32) (Q : Int32 → xM → Prop) (M : xM) : Prop :=
    wX3_refusal M (-6 : Int32) (fun r29 M29 => Q r29 M29)
set_option maxHeartbeats 4000000 in
set_option maxRecDepth 100000 in
theorem tX3_row_26 {l : Launch} {E : xE} {p1 : Int32} {Q : Int32 → xM → Prop} (M : xM) (h : wX3_row_26 p1 Q M ) : Gx l E mX3_row (xRi Q) 26 M [some (.ref 0), none] [] := by
  unfold wX3_row_26 at h
  refine Gx_run (es := eX3_row_26) (P := []) (M' := M) (L' := [some (.ref 0), none]) (st' := [.int (-6 : Int32), .ref 0]) (pc' := 29) kX3_row_26 rfl trivial rfl ?_
  refine Gx_callV (As := [.int (-6 : Int32)]) (by decide +kernel) ml_3_63 okX3_refusal mvX3_refusal rfl (by decide) (Nat.le_of_ble_eq_true rfl) rfl rfl rfl (tX3_refusal h) (fun rr M29 qq => ?_)
  obtain ⟨r29, rfl, h⟩ := qq
  show Gx l E mX3_row _ 32 M29 [some (.ref 0), none] [.int r29]
  exact Gx_iret (by decide +kernel) rfl rfl ⟨_, rfl, h⟩
def wX3_row (M : xM) (p1 : Int32) (Q : Int32 → xM → Prop) : Prop :=
    (((0 ≤ p1) → (((((99 : Int32) < p1) → (wX3_row_26 p1 Q M)) ∧ ((¬ (99 : Int32) < p1) → (((((M 0 9) < (32 : Int32)) → ((vp_in (M 0 9) 32) ∧ Q ((xup (xup M 48 (M 0 9).toNatClampNeg p1) 0 9 (((xup M 48 (M 0 9).toNatClampNeg p1) 0 9) + (1 : Int32))) 0 9) (xup (xup M 48 (M 0 9).toNatClampNeg p1) 0 9 (((xup M 48 (M 0 9).toNatClampNeg p1) 0 9) + (1 : Int32))))) ∧ ((¬ (M 0 9) < (32 : Int32)) → (wX3_row_26 p1 Q M)))))))) ∧ ((¬ 0 ≤ p1) → (wX3_refusal M (-4 : Int32) (fun r7 M7 => Q r7 M7))))
set_option maxHeartbeats 4000000 in
set_option maxRecDepth 100000 in
theorem tX3_row {l : Launch} {E : xE} {M : xM} {p1 : Int32} {Q : Int32 → xM → Prop} (h : wX3_row M p1 Q) : Ct l E mX3_row [.ref 0, .int p1] M (xRi Q) := by
  refine Ct_of (by decide +kernel) rfl (Nat.le_of_ble_eq_true rfl) ?_
  unfold wX3_row at h
  show Gx l E mX3_row (xRi Q) 0 M [some (.ref 0), some (.int p1)] []
  refine Gx_run (es := eX3_row_0) (P := []) (M' := M) (L' := [some (.ref 0), some (.int p1)]) (st' := [.int p1]) (pc' := 1) kX3_row_0 rfl trivial rfl ?_
  refine Gx_if_ge (off := 10) (tgt := 11) (by decide +kernel) (by decide) (fun z => ?_) (fun z => ?_)
  · have h := h.1 z
    refine Gx_run (es := eX3_row_11) (P := []) (M' := M) (L' := [some (.ref 0), some (.int p1)]) (st' := [.int (99 : Int32), .int p1]) (pc' := 14) kX3_row_11 rfl trivial rfl ?_
    refine Gx_icmp_gt (off := 12) (tgt := 26) (by decide +kernel) (by decide) (fun z => ?_) (fun z => ?_)
    · have h := h.1 z
      refine Gx_mask [true, false] (L' := [some (.ref 0), none]) rfl ?_
      exact tX3_row_26  M h
    · have h := h.2 z
      refine Gx_run (es := eX3_row_17) (P := [xkd 0 = 3]) (M' := M) (L' := [some (.ref 0), some (.int p1)]) (st' := [.int (32 : Int32), .int (M 0 9)]) (pc' := 23) kX3_row_17 rfl ⟨rfl, trivial⟩ rfl ?_
      refine Gx_icmp_lt (off := 10) (tgt := 33) (by decide +kernel) (by decide) (fun z => ?_) (fun z => ?_)
      · have h := h.1 z
        obtain ⟨g33_0, h⟩ := h
        refine Gx_run (es := eX3_row_33) (P := [xkd 0 = 3, xkd 0 = 3, xkd 48 = 5, vp_in (M 0 9) (xln 48), xkd 0 = 3, xkd 0 = 3, xkd 0 = 3]) (M' := (xup (xup M 48 (M 0 9).toNatClampNeg p1) 0 9 (((xup M 48 (M 0 9).toNatClampNeg p1) 0 9) + (1 : Int32)))) (L' := [some (.ref 0), some (.int p1)]) (st' := [.int ((xup (xup M 48 (M 0 9).toNatClampNeg p1) 0 9 (((xup M 48 (M 0 9).toNatClampNeg p1) 0 9) + (1 : Int32))) 0 9)]) (pc' := 57) kX3_row_33 rfl ⟨rfl, rfl, rfl, g33_0, rfl, rfl, rfl, trivial⟩ rfl ?_
        exact Gx_iret (by decide +kernel) rfl rfl ⟨_, rfl, h⟩
      · have h := h.2 z
        refine Gx_mask [true, false] (L' := [some (.ref 0), none]) rfl ?_
        exact tX3_row_26  M h
  · have h := h.2 z
    refine Gx_run (es := eX3_row_4) (P := []) (M' := M) (L' := [some (.ref 0), some (.int p1)]) (st' := [.int (-4 : Int32), .ref 0]) (pc' := 7) kX3_row_4 rfl trivial rfl ?_
    refine Gx_callV (As := [.int (-4 : Int32)]) (by decide +kernel) ml_3_63 okX3_refusal mvX3_refusal rfl (by decide) (Nat.le_of_ble_eq_true rfl) rfl rfl rfl (tX3_refusal h) (fun rr M7 qq => ?_)
    obtain ⟨r7, rfl, h⟩ := qq
    show Gx l E mX3_row _ 10 M7 [some (.ref 0), some (.int p1)] [.int r7]
    exact Gx_iret (by decide +kernel) rfl rfl ⟨_, rfl, h⟩
def eX3_slot_0 : List xI := [(.iload_n 1, 1, 0, 0, 0), (.bipush 10, 2, 0, 0, (10))]
theorem kX3_slot_0 : xcode (xmb mX3_slot) (xmo mX3_slot) 0 eX3_slot_0 = true := by decide +kernel
def eX3_slot_18 : List xI := [(.aload_n 0, 1, 0, 0, 0), (.iconst (-1), 1, 0, 0, (-1))]
theorem kX3_slot_18 : xcode (xmb mX3_slot) (xmo mX3_slot) 18 eX3_slot_18 = true := by decide +kernel
def eX3_slot_9 : List xI := [(.iload_n 2, 1, 0, 0, 0), (.bipush 6, 2, 0, 0, (6))]
theorem kX3_slot_9 : xcode (xmb mX3_slot) (xmo mX3_slot) 9 eX3_slot_9 = true := by decide +kernel
def eX3_slot_24 : List xI := [(.aload_n 0, 1, 0, 0, 0), (.getfield 10, 3, 3, 0, 0), (.getfield 112, 3, 2, 4, 0), (.bipush 6, 2, 0, 0, (6)), (.iload_n 1, 1, 0, 0, 0), (.imul, 1, 0, 0, 0), (.iload_n 2, 1, 0, 0, 0), (.iadd, 1, 0, 0, 0), (.iaload, 1, 0, 0, 0)]
theorem kX3_slot_24 : xcode (xmb mX3_slot) (xmo mX3_slot) 24 eX3_slot_24 = true := by decide +kernel
def wX3_slot_18 (p1 : Int32) (p2 : Int32) (Q : Int32 → xM → Prop) (M : xM) : Prop :=
    wX3_refusal M (-1 : Int32) (fun r20 M20 => Q r20 M20)
set_option maxHeartbeats 4000000 in
set_option maxRecDepth 100000 in
theorem tX3_slot_18 {l : Launch} {E : xE} {p1 : Int32} {p2 : Int32} {Q : Int32 → xM → Prop} (M : xM) (h : wX3_slot_18 p1 p2 Q M ) : Gx l E mX3_slot (xRi Q) 18 M [some (.ref 0), none, none] [] := by
  unfold wX3_slot_18 at h
  refine Gx_run (es := eX3_slot_18) (P := []) (M' := M) (L' := [some (.ref 0), none, none]) (st' := [.int (-1 : Int32), .ref 0]) (pc' := 20) kX3_slot_18 rfl trivial rfl ?_
  refine Gx_callV (As := [.int (-1 : Int32)]) (by decide +kernel) ml_3_63 okX3_refusal mvX3_refusal rfl (by decide) (Nat.le_of_ble_eq_true rfl) rfl rfl rfl (tX3_refusal h) (fun rr M20 qq => ?_)
  obtain ⟨r20, rfl, h⟩ := qq
  show Gx l E mX3_slot _ 23 M20 [some (.ref 0), none, none] [.int r20]
  exact Gx_iret (by decide +kernel) rfl rfl ⟨_, rfl, h⟩
def wX3_slot (M : xM) (p1 : Int32) (p2 : Int32) (Q : Int32 → xM → Prop) : Prop :=
    wX3_isOutside M p1 (10 : Int32) (fun r3 M3 => (((¬ r3 = 0) → (wX3_slot_18 p1 p2 Q M3)) ∧ ((r3 = 0) → (wX3_isOutside M3 p2 (6 : Int32) (fun r12 M12 => (((r12 = 0) → ((vp_in (((6 : Int32) * p1) + p2) 60) ∧ Q (M12 6 (((6 : Int32) * p1) + p2).toNatClampNeg) M12)) ∧ ((¬ r12 = 0) → (wX3_slot_18 p1 p2 Q M12))))))))
set_option maxHeartbeats 4000000 in
set_option maxRecDepth 100000 in
theorem tX3_slot {l : Launch} {E : xE} {M : xM} {p1 : Int32} {p2 : Int32} {Q : Int32 → xM → Prop} (h : wX3_slot M p1 p2 Q) : Ct l E mX3_slot [.ref 0, .int p1, .int p2] M (xRi Q) := by
  refine Ct_of (by decide +kernel) rfl (Nat.le_of_ble_eq_true rfl) ?_
  unfold wX3_slot at h
  show Gx l E mX3_slot (xRi Q) 0 M [some (.ref 0), some (.int p1), some (.int p2)] []
  refine Gx_run (es := eX3_slot_0) (P := []) (M' := M) (L' := [some (.ref 0), some (.int p1), some (.int p2)]) (st' := [.int (10 : Int32), .int p1]) (pc' := 3) kX3_slot_0 rfl trivial rfl ?_
  refine Gx_callS (As := [.int p1, .int (10 : Int32)]) (by decide +kernel) ml_3_84 okX3_isOutside mvX3_isOutside rfl (by decide) (Nat.le_of_ble_eq_true rfl) (tX3_isOutside h) (fun rr M3 qq => ?_)
  obtain ⟨r3, rfl, h⟩ := qq
  show Gx l E mX3_slot _ 6 M3 [some (.ref 0), some (.int p1), some (.int p2)] [.int r3]
  refine Gx_if_ne (off := 12) (tgt := 18) (by decide +kernel) (by decide) (fun z => ?_) (fun z => ?_)
  · have h := h.1 z
    refine Gx_mask [true, false, false] (L' := [some (.ref 0), none, none]) rfl ?_
    exact tX3_slot_18  M3 h
  · have h := h.2 z
    refine Gx_run (es := eX3_slot_9) (P := []) (M' := M3) (L' := [some (.ref 0), some (.int p1), some (.int p2)]) (st' := [.int (6 : Int32), .int p2]) (pc' := 12) kX3_slot_9 rfl trivial rfl ?_
    refine Gx_callS (As := [.int p2, .int (6 : Int32)]) (by decide +kernel) ml_3_84 okX3_isOutside mvX3_isOutside rfl (by decide) (Nat.le_of_ble_eq_true rfl) (tX3_isOutside h) (fun rr M12 qq => ?_)
    obtain ⟨r12, rfl, h⟩ := qq
    show Gx l E mX3_slot _ 15 M12 [some (.ref 0), some (.int p1), some (.int p2)] [.int r12]
    refine Gx_if_eq (off := 9) (tgt := 24) (by decide +kernel) (by decide) (fun z => ?_) (fun z => ?_)
    · have h := h.1 z
      obtain ⟨g24_0, h⟩ := h
      refine Gx_run (es := eX3_slot_24) (P := [xkd 0 = 3, xkd 1 = 2, xkd 6 = 5, vp_in (((6 : Int32) * p1) + p2) (xln 6)]) (M' := M12) (L' := [some (.ref 0), some (.int p1), some (.int p2)]) (st' := [.int (M12 6 (((6 : Int32) * p1) + p2).toNatClampNeg)]) (pc' := 38) kX3_slot_24 rfl ⟨rfl, rfl, rfl, g24_0, trivial⟩ rfl ?_
      exact Gx_iret (by decide +kernel) rfl rfl ⟨_, rfl, h⟩
    · have h := h.2 z
      refine Gx_mask [true, false, false] (L' := [some (.ref 0), none, none]) rfl ?_
      exact tX3_slot_18  M12 h
def eX3_writes_0 : List xI := [(.iload_n 1, 1, 0, 0, 0), (.bipush 24, 2, 0, 0, (24))]
theorem kX3_writes_0 : xcode (xmb mX3_writes) (xmo mX3_writes) 0 eX3_writes_0 = true := by decide +kernel
def eX3_writes_15 : List xI := [(.iload_n 2, 1, 0, 0, 0)]
theorem kX3_writes_15 : xcode (xmb mX3_writes) (xmo mX3_writes) 15 eX3_writes_15 = true := by decide +kernel
def eX3_writes_26 : List xI := [(.iload_n 2, 1, 0, 0, 0), (.bipush 99, 2, 0, 0, (99))]
theorem kX3_writes_26 : xcode (xmb mX3_writes) (xmo mX3_writes) 26 eX3_writes_26 = true := by decide +kernel
def eX3_writes_39 : List xI := [(.aload_n 0, 1, 0, 0, 0), (.getfield 10, 3, 3, 0, 0), (.getfield 115, 3, 2, 5, 0), (.iload_n 1, 1, 0, 0, 0), (.iaload, 1, 0, 0, 0), (.istore_n 3, 1, 0, 0, 0), (.aload_n 0, 1, 0, 0, 0), (.getfield 10, 3, 3, 0, 0), (.getfield 115, 3, 2, 5, 0), (.iload_n 1, 1, 0, 0, 0), (.iload_n 2, 1, 0, 0, 0), (.iastore, 1, 0, 0, 0), (.iload_n 3, 1, 0, 0, 0)]
theorem kX3_writes_39 : xcode (xmb mX3_writes) (xmo mX3_writes) 39 eX3_writes_39 = true := by decide +kernel
def eX3_writes_32 : List xI := [(.aload_n 0, 1, 0, 0, 0), (.bipush (-6), 2, 0, 0, (-6))]
theorem kX3_writes_32 : xcode (xmb mX3_writes) (xmo mX3_writes) 32 eX3_writes_32 = true := by decide +kernel
def eX3_writes_19 : List xI := [(.aload_n 0, 1, 0, 0, 0), (.bipush (-4), 2, 0, 0, (-4))]
theorem kX3_writes_19 : xcode (xmb mX3_writes) (xmo mX3_writes) 19 eX3_writes_19 = true := by decide +kernel
def eX3_writes_9 : List xI := [(.aload_n 0, 1, 0, 0, 0), (.iconst (-1), 1, 0, 0, (-1))]
theorem kX3_writes_9 : xcode (xmb mX3_writes) (xmo mX3_writes) 9 eX3_writes_9 = true := by decide +kernel
def wX3_writes (M : xM) (p1 : Int32) (p2 : Int32) (Q : Int32 → xM → Prop) : Prop :=
    wX3_isOutside M p1 (24 : Int32) (fun r3 M3 => (((r3 = 0) → ((((0 ≤ p2) → ((((p2 ≤ (99 : Int32)) → ((vp_in p1 24) ∧ Q (M3 7 p1.toNatClampNeg) (xup M3 7 p1.toNatClampNeg p2))) ∧ ((¬ p2 ≤ (99 : Int32)) → (wX3_refusal M3 (-6 : Int32) (fun r35 M35 => Q r35 M35)))))) ∧ ((¬ 0 ≤ p2) → (wX3_refusal M3 (-4 : Int32) (fun r22 M22 => Q r22 M22)))))) ∧ ((¬ r3 = 0) → (wX3_refusal M3 (-1 : Int32) (fun r11 M11 => Q r11 M11)))))
set_option maxHeartbeats 4000000 in
set_option maxRecDepth 100000 in
theorem tX3_writes {l : Launch} {E : xE} {M : xM} {p1 : Int32} {p2 : Int32} {Q : Int32 → xM → Prop} (h : wX3_writes M p1 p2 Q) : Ct l E mX3_writes [.ref 0, .int p1, .int p2] M (xRi Q) := by
  refine Ct_of (by decide +kernel) rfl (Nat.le_of_ble_eq_true rfl) ?_
  unfold wX3_writes at h
  show Gx l E mX3_writes (xRi Q) 0 M [some (.ref 0), some (.int p1), some (.int p2), none] []
  refine Gx_run (es := eX3_writes_0) (P := []) (M' := M) (L' := [some (.ref 0), some (.int p1), some (.int p2), none]) (st' := [.int (24 : Int32), .int p1]) (pc' := 3) kX3_writes_0 rfl trivial rfl ?_
  refine Gx_callS (As := [.int p1, .int (24 : Int32)]) (by decide +kernel) ml_3_84 okX3_isOutside mvX3_isOutside rfl (by decide) (Nat.le_of_ble_eq_true rfl) (tX3_isOutside h) (fun rr M3 qq => ?_)
  obtain ⟨r3, rfl, h⟩ := qq
  show Gx l E mX3_writes _ 6 M3 [some (.ref 0), some (.int p1), some (.int p2), none] [.int r3]
  refine Gx_if_eq (off := 9) (tgt := 15) (by decide +kernel) (by decide) (fun z => ?_) (fun z => ?_)
  · have h := h.1 z
    refine Gx_run (es := eX3_writes_15) (P := []) (M' := M3) (L' := [some (.ref 0), some (.int p1), some (.int p2), none]) (st' := [.int p2]) (pc' := 16) kX3_writes_15 rfl trivial rfl ?_
    refine Gx_if_ge (off := 10) (tgt := 26) (by decide +kernel) (by decide) (fun z => ?_) (fun z => ?_)
    · have h := h.1 z
      refine Gx_run (es := eX3_writes_26) (P := []) (M' := M3) (L' := [some (.ref 0), some (.int p1), some (.int p2), none]) (st' := [.int (99 : Int32), .int p2]) (pc' := 29) kX3_writes_26 rfl trivial rfl ?_
      refine Gx_icmp_le (off := 10) (tgt := 39) (by decide +kernel) (by decide) (fun z => ?_) (fun z => ?_)
      · have h := h.1 z
        obtain ⟨g39_0, h⟩ := h
        refine Gx_run (es := eX3_writes_39) (P := [xkd 0 = 3, xkd 1 = 2, xkd 7 = 5, vp_in p1 (xln 7), xkd 0 = 3, xkd 1 = 2, xkd 7 = 5, vp_in p1 (xln 7)]) (M' := (xup M3 7 p1.toNatClampNeg p2)) (L' := [some (.ref 0), some (.int p1), some (.int p2), some (.int (M3 7 p1.toNatClampNeg))]) (st' := [.int (M3 7 p1.toNatClampNeg)]) (pc' := 60) kX3_writes_39 rfl ⟨rfl, rfl, rfl, g39_0, rfl, rfl, rfl, g39_0, trivial⟩ rfl ?_
        exact Gx_iret (by decide +kernel) rfl rfl ⟨_, rfl, h⟩
      · have h := h.2 z
        refine Gx_run (es := eX3_writes_32) (P := []) (M' := M3) (L' := [some (.ref 0), some (.int p1), some (.int p2), none]) (st' := [.int (-6 : Int32), .ref 0]) (pc' := 35) kX3_writes_32 rfl trivial rfl ?_
        refine Gx_callV (As := [.int (-6 : Int32)]) (by decide +kernel) ml_3_63 okX3_refusal mvX3_refusal rfl (by decide) (Nat.le_of_ble_eq_true rfl) rfl rfl rfl (tX3_refusal h) (fun rr M35 qq => ?_)
        obtain ⟨r35, rfl, h⟩ := qq
        show Gx l E mX3_writes _ 38 M35 [some (.ref 0), some (.int p1), some (.int p2), none] [.int r35]
        exact Gx_iret (by decide +kernel) rfl rfl ⟨_, rfl, h⟩
    · have h := h.2 z
      refine Gx_run (es := eX3_writes_19) (P := []) (M' := M3) (L' := [some (.ref 0), some (.int p1), some (.int p2), none]) (st' := [.int (-4 : Int32), .ref 0]) (pc' := 22) kX3_writes_19 rfl trivial rfl ?_
      refine Gx_callV (As := [.int (-4 : Int32)]) (by decide +kernel) ml_3_63 okX3_refusal mvX3_refusal rfl (by decide) (Nat.le_of_ble_eq_true rfl) rfl rfl rfl (tX3_refusal h) (fun rr M22 qq => ?_)
      obtain ⟨r22, rfl, h⟩ := qq
      show Gx l E mX3_writes _ 25 M22 [some (.ref 0), some (.int p1), some (.int p2), none] [.int r22]
      exact Gx_iret (by decide +kernel) rfl rfl ⟨_, rfl, h⟩
  · have h := h.2 z
    refine Gx_run (es := eX3_writes_9) (P := []) (M' := M3) (L' := [some (.ref 0), some (.int p1), some (.int p2), none]) (st' := [.int (-1 : Int32), .ref 0]) (pc' := 11) kX3_writes_9 rfl trivial rfl ?_
    refine Gx_callV (As := [.int (-1 : Int32)]) (by decide +kernel) ml_3_63 okX3_refusal mvX3_refusal rfl (by decide) (Nat.le_of_ble_eq_true rfl) rfl rfl rfl (tX3_refusal h) (fun rr M11 qq => ?_)
    obtain ⟨r11, rfl, h⟩ := qq
    show Gx l E mX3_writes _ 14 M11 [some (.ref 0), some (.int p1), some (.int p2), none] [.int r11]
    exact Gx_iret (by decide +kernel) rfl rfl ⟨_, rfl, h⟩
def eX4_attaches_0 : List xI := [(.iconst 0, 1, 0, 0, (0)), (.istore_n 2, 1, 0, 0, 0)]
theorem kX4_attaches_0 : xcode (xmb mX4_attaches) (xmo mX4_attaches) 0 eX4_attaches_0 = true := by decide +kernel
def eX4_attaches_2 : List xI := [(.iload_n 2, 1, 0, 0, 0), (.aload_n 0, 1, 0, 0, 0), (.getfield 7, 3, 4, 1, 0), (.iconst 0, 1, 0, 0, (0)), (.iaload, 1, 0, 0, 0)]
theorem kX4_attaches_2 : xcode (xmb mX4_attaches) (xmo mX4_attaches) 2 eX4_attaches_2 = true := by decide +kernel
def eX4_attaches_54 : List xI := [(.aload_n 0, 1, 0, 0, 0), (.iload_n 1, 1, 0, 0, 0), (.iconst 0, 1, 0, 0, (0))]
theorem kX4_attaches_54 : xcode (xmb mX4_attaches) (xmo mX4_attaches) 54 eX4_attaches_54 = true := by decide +kernel
def eX4_attaches_60 : List xI := [(.bipush 6, 2, 0, 0, (6))]
theorem kX4_attaches_60 : xcode (xmb mX4_attaches) (xmo mX4_attaches) 60 eX4_attaches_60 = true := by decide +kernel
def eX4_attaches_15 : List xI := [(.aload_n 0, 1, 0, 0, 0), (.getfield 7, 3, 4, 1, 0), (.bipush 60, 2, 0, 0, (60)), (.iload_n 2, 1, 0, 0, 0), (.iadd, 1, 0, 0, 0), (.iaload, 1, 0, 0, 0), (.iconst (-1), 1, 0, 0, (-1))]
theorem kX4_attaches_15 : xcode (xmb mX4_attaches) (xmo mX4_attaches) 15 eX4_attaches_15 = true := by decide +kernel
def eX4_attaches_48 : List xI := [(.iinc 2 1, 3, 0, 0, (1))]
theorem kX4_attaches_48 : xcode (xmb mX4_attaches) (xmo mX4_attaches) 48 eX4_attaches_48 = true := by decide +kernel
def eX4_attaches_28 : List xI := [(.aload_n 0, 1, 0, 0, 0), (.getfield 7, 3, 4, 1, 0), (.bipush 60, 2, 0, 0, (60)), (.iload_n 2, 1, 0, 0, 0), (.iadd, 1, 0, 0, 0), (.bipush 26, 2, 0, 0, (26)), (.iload_n 1, 1, 0, 0, 0), (.imul, 1, 0, 0, 0), (.aload_n 0, 1, 0, 0, 0)]
theorem kX4_attaches_28 : xcode (xmb mX4_attaches) (xmo mX4_attaches) 28 eX4_attaches_28 = true := by decide +kernel
def eX4_attaches_44 : List xI := [(.iadd, 1, 0, 0, 0), (.iastore, 1, 0, 0, 0), (.iload_n 2, 1, 0, 0, 0)]
theorem kX4_attaches_44 : xcode (xmb mX4_attaches) (xmo mX4_attaches) 44 eX4_attaches_44 = true := by decide +kernel
def lX4_attaches_2 (p1 : Int32) (Q : Int32 → xM → Prop) : Nat → xM → Int32 → Prop
  | 0 => fun _ _ => False
  | n + 1 => let k2 := lX4_attaches_2 p1 Q n; fun M a2 =>
    (vp_in (0 : Int32) 147) ∧ wX4_lists M (M 51 (0 : Int32).toNatClampNeg) (fun r9 M9 => (((r9 ≤ a2) → (wX4_wipes M9 p1 (0 : Int32) (fun M57 => Q (6 : Int32) M57))) ∧ ((¬ r9 ≤ a2) → ((vp_in ((60 : Int32) + a2) 147) ∧ (((¬ (M9 51 ((60 : Int32) + a2).toNatClampNeg) = (-1 : Int32)) → (k2 M9 (a2 + (1 : Int32)))) ∧ (((M9 51 ((60 : Int32) + a2).toNatClampNeg) = (-1 : Int32)) → (wX4_leastName M9 (fun r41 M41 => (vp_in ((60 : Int32) + a2) 147) ∧ Q a2 (xup M41 51 ((60 : Int32) + a2).toNatClampNeg (((26 : Int32) * p1) + r41))))))))))
set_option maxHeartbeats 4000000 in
set_option maxRecDepth 100000 in
theorem tX4_attaches_2 {l : Launch} {E : xE} {p1 : Int32} {Q : Int32 → xM → Prop} (n : Nat) : ∀ (M : xM) (a2 : Int32), lX4_attaches_2 p1 Q n M a2 → Gx l E mX4_attaches (xRi Q) 2 M [some (.ref 50), some (.int p1), some (.int a2)] [] := by
  induction n with
  | zero => intro M a2 h; exact h.elim
  | succ n hk2 =>
      intro M a2 h
      unfold lX4_attaches_2 at h
      dsimp only at h
      obtain ⟨g2_0, h⟩ := h
      refine Gx_run (es := eX4_attaches_2) (P := [xkd 50 = 4, xkd 51 = 5, vp_in (0 : Int32) (xln 51)]) (M' := M) (L' := [some (.ref 50), some (.int p1), some (.int a2)]) (st' := [.int (M 51 (0 : Int32).toNatClampNeg), .int a2]) (pc' := 9) kX4_attaches_2 rfl ⟨rfl, rfl, g2_0, trivial⟩ rfl ?_
      refine Gx_callS (As := [.int (M 51 (0 : Int32).toNatClampNeg)]) (by decide +kernel) ml_4_118 okX4_lists mvX4_lists rfl (by decide) (Nat.le_of_ble_eq_true rfl) (tX4_lists h) (fun rr M9 qq => ?_)
      obtain ⟨r9, rfl, h⟩ := qq
      show Gx l E mX4_attaches _ 12 M9 [some (.ref 50), some (.int p1), some (.int a2)] [.int r9, .int a2]
      refine Gx_icmp_ge (off := 42) (tgt := 54) (by decide +kernel) (by decide) (fun z => ?_) (fun z => ?_)
      · have h := h.1 z
        refine Gx_run (es := eX4_attaches_54) (P := []) (M' := M9) (L' := [some (.ref 50), some (.int p1), some (.int a2)]) (st' := [.int (0 : Int32), .int p1, .ref 50]) (pc' := 57) kX4_attaches_54 rfl trivial rfl ?_
        refine Gx_callV (As := [.int p1, .int (0 : Int32)]) (by decide +kernel) ml_4_161 okX4_wipes mvX4_wipes rfl (by decide) (Nat.le_of_ble_eq_true rfl) rfl rfl rfl (tX4_wipes h) (fun rr M57 qq => ?_)
        obtain ⟨rfl, h⟩ := qq
        show Gx l E mX4_attaches _ 60 M57 [some (.ref 50), some (.int p1), some (.int a2)] []
        refine Gx_run (es := eX4_attaches_60) (P := []) (M' := M57) (L' := [some (.ref 50), some (.int p1), some (.int a2)]) (st' := [.int (6 : Int32)]) (pc' := 62) kX4_attaches_60 rfl trivial rfl ?_
        exact Gx_iret (by decide +kernel) rfl rfl ⟨_, rfl, h⟩
      · have h := h.2 z
        obtain ⟨g15_0, h⟩ := h
        refine Gx_run (es := eX4_attaches_15) (P := [xkd 50 = 4, xkd 51 = 5, vp_in ((60 : Int32) + a2) (xln 51)]) (M' := M9) (L' := [some (.ref 50), some (.int p1), some (.int a2)]) (st' := [.int (-1 : Int32), .int (M9 51 ((60 : Int32) + a2).toNatClampNeg)]) (pc' := 25) kX4_attaches_15 rfl ⟨rfl, rfl, g15_0, trivial⟩ rfl ?_
        refine Gx_icmp_ne (off := 23) (tgt := 48) (by decide +kernel) (by decide) (fun z => ?_) (fun z => ?_)
        · have h := h.1 z
          refine Gx_run (es := eX4_attaches_48) (P := []) (M' := M9) (L' := [some (.ref 50), some (.int p1), some (.int (a2 + (1 : Int32)))]) (st' := []) (pc' := 51) kX4_attaches_48 rfl trivial rfl ?_
          refine Gx_goto (off := -49) (tgt := 2) (by decide +kernel) (by decide) ?_
          refine Gx_mask [true, true, true] (L' := [some (.ref 50), some (.int p1), some (.int (a2 + (1 : Int32)))]) rfl ?_
          exact hk2 M9 (a2 + (1 : Int32)) h
        · have h := h.2 z
          refine Gx_run (es := eX4_attaches_28) (P := [xkd 50 = 4]) (M' := M9) (L' := [some (.ref 50), some (.int p1), some (.int a2)]) (st' := [.ref 50, .int ((26 : Int32) * p1), .int ((60 : Int32) + a2), .ref 51]) (pc' := 41) kX4_attaches_28 rfl ⟨rfl, trivial⟩ rfl ?_
          refine Gx_callV (As := []) (by decide +kernel) ml_4_158 okX4_leastName mvX4_leastName rfl (by decide) (Nat.le_of_ble_eq_true rfl) rfl rfl rfl (tX4_leastName h) (fun rr M41 qq => ?_)
          obtain ⟨r41, rfl, h⟩ := qq
          show Gx l E mX4_attaches _ 44 M41 [some (.ref 50), some (.int p1), some (.int a2)] [.int r41, .int ((26 : Int32) * p1), .int ((60 : Int32) + a2), .ref 51]
          obtain ⟨g44_0, h⟩ := h
          refine Gx_run (es := eX4_attaches_44) (P := [xkd 51 = 5, vp_in ((60 : Int32) + a2) (xln 51)]) (M' := (xup M41 51 ((60 : Int32) + a2).toNatClampNeg (((26 : Int32) * p1) + r41))) (L' := [some (.ref 50), some (.int p1), some (.int a2)]) (st' := [.int a2]) (pc' := 47) kX4_attaches_44 rfl ⟨rfl, g44_0, trivial⟩ rfl ?_
          exact Gx_iret (by decide +kernel) rfl rfl ⟨_, rfl, h⟩
def wX4_attaches (M : xM) (p1 : Int32) (Q : Int32 → xM → Prop) : Prop :=
    (∃ n : Nat, lX4_attaches_2 p1 Q n M (0 : Int32))
set_option maxHeartbeats 4000000 in
set_option maxRecDepth 100000 in
theorem tX4_attaches {l : Launch} {E : xE} {M : xM} {p1 : Int32} {Q : Int32 → xM → Prop} (h : wX4_attaches M p1 Q) : Ct l E mX4_attaches [.ref 50, .int p1] M (xRi Q) := by
  refine Ct_of (by decide +kernel) rfl (Nat.le_of_ble_eq_true rfl) ?_
  unfold wX4_attaches at h
  show Gx l E mX4_attaches (xRi Q) 0 M [some (.ref 50), some (.int p1), none] []
  refine Gx_run (es := eX4_attaches_0) (P := []) (M' := M) (L' := [some (.ref 50), some (.int p1), some (.int (0 : Int32))]) (st' := []) (pc' := 2) kX4_attaches_0 rfl trivial rfl ?_
  refine Gx_mask [true, true, true] (L' := [some (.ref 50), some (.int p1), some (.int (0 : Int32))]) rfl ?_
  obtain ⟨n, h⟩ := h
  exact tX4_attaches_2  n M (0 : Int32) h
