/-! walks: J0_coder_7d493, J0_isLatin1_aae02, J1_canEncode_9a6ad, J1_indexOfChar_4cfef, J3_checkIndex_8e157, J6_bitCount_0f7a4, J6_numberOfTrailingZeros_0f7a4, J7_fill_53178, X0_askedFor, X0_asks, X0_faultOfPointer, X1_append, X1_shapeOf -/
def eJ0_coder_7d493_0 : List xI := [(.getstatic 38, 3, 2, 0, 0)]
theorem kJ0_coder_7d493_0 : xcode (xmb mJ0_coder_7d493) (xmo mJ0_coder_7d493) 0 eJ0_coder_7d493_0 = true := by decide +kernel
def eJ0_coder_7d493_6 : List xI := [(.aload_n 0, 1, 0, 0, 0), (.getfield 15, 3, 9, 1, 0)]
theorem kJ0_coder_7d493_6 : xcode (xmb mJ0_coder_7d493) (xmo mJ0_coder_7d493) 6 eJ0_coder_7d493_6 = true := by decide +kernel
def wJ0_coder_7d493_14 (t : Nat) (Q : Int32 → xM → Prop) (M : xM) : Prop :=
    Q (0 : Int32) M
set_option maxHeartbeats 4000000 in
set_option maxRecDepth 100000 in
theorem tJ0_coder_7d493_14 {l : Launch} {E : xE} {t : Nat} {Q : Int32 → xM → Prop} (h_t : xStp t) (M : xM) (h : wJ0_coder_7d493_14 t Q M ) : Gx l E mJ0_coder_7d493 (xRi Q) 14 M [none] [.int (0 : Int32)] := by
  unfold wJ0_coder_7d493_14 at h
  exact Gx_iret (by decide +kernel) rfl (by decide) ⟨_, rfl, h⟩
def wJ0_coder_7d493 (M : xM) (t : Nat) (Q : Int32 → xM → Prop) : Prop :=
    wJ0_coder_7d493_14 t Q M
set_option maxHeartbeats 4000000 in
set_option maxRecDepth 100000 in
theorem tJ0_coder_7d493 {l : Launch} {E : xE} {M : xM} {t : Nat} {Q : Int32 → xM → Prop} (h_t : xStp t) (h : wJ0_coder_7d493 M t Q) : Ct l E mJ0_coder_7d493 [.ref t] M (xRi Q) := by
  refine Ct_of (by decide +kernel) rfl (Nat.le_of_ble_eq_true rfl) ?_
  unfold wJ0_coder_7d493 at h
  show Gx l E mJ0_coder_7d493 (xRi Q) 0 M [some (.ref t)] []
  refine Gx_run (es := eJ0_coder_7d493_0) (P := []) (M' := M) (L' := [some (.ref t)]) (st' := [.int (1 : Int32)]) (pc' := 3) kJ0_coder_7d493_0 rfl trivial rfl ?_
  refine Gx_if_eq (off := 10) (tgt := 13) (by decide +kernel) (by decide) (fun z => absurd z (by decide)) (fun _ => ?_)
  refine Gx_run (es := eJ0_coder_7d493_6) (P := [110 ≤ t, t < 119]) (M' := M) (L' := [some (.ref t)]) (st' := [.int (0 : Int32)]) (pc' := 10) kJ0_coder_7d493_6 rfl ⟨h_t.1, h_t.2, trivial⟩ rfl ?_
  refine Gx_goto (off := 4) (tgt := 14) (by decide +kernel) (by decide) ?_
  refine Gx_mask [false] (L' := [none]) rfl ?_
  exact tJ0_coder_7d493_14 h_t  M h
def eJ0_isLatin1_aae02_0 : List xI := [(.getstatic 38, 3, 2, 0, 0)]
theorem kJ0_isLatin1_aae02_0 : xcode (xmb mJ0_isLatin1_aae02) (xmo mJ0_isLatin1_aae02) 0 eJ0_isLatin1_aae02_0 = true := by decide +kernel
def eJ0_isLatin1_aae02_6 : List xI := [(.aload_n 0, 1, 0, 0, 0), (.getfield 15, 3, 9, 1, 0)]
theorem kJ0_isLatin1_aae02_6 : xcode (xmb mJ0_isLatin1_aae02) (xmo mJ0_isLatin1_aae02) 6 eJ0_isLatin1_aae02_6 = true := by decide +kernel
def eJ0_isLatin1_aae02_13 : List xI := [(.iconst 1, 1, 0, 0, (1))]
theorem kJ0_isLatin1_aae02_13 : xcode (xmb mJ0_isLatin1_aae02) (xmo mJ0_isLatin1_aae02) 13 eJ0_isLatin1_aae02_13 = true := by decide +kernel
def wJ0_isLatin1_aae02_18 (t : Nat) (Q : Int32 → xM → Prop) (M : xM) : Prop :=
    Q (1 : Int32) M
set_option maxHeartbeats 4000000 in
set_option maxRecDepth 100000 in
theorem tJ0_isLatin1_aae02_18 {l : Launch} {E : xE} {t : Nat} {Q : Int32 → xM → Prop} (h_t : xStp t) (M : xM) (h : wJ0_isLatin1_aae02_18 t Q M ) : Gx l E mJ0_isLatin1_aae02 (xRi Q) 18 M [none] [.int (1 : Int32)] := by
  unfold wJ0_isLatin1_aae02_18 at h
  exact Gx_iret (by decide +kernel) rfl (by decide) ⟨_, rfl, h⟩
def wJ0_isLatin1_aae02 (M : xM) (t : Nat) (Q : Int32 → xM → Prop) : Prop :=
    wJ0_isLatin1_aae02_18 t Q M
set_option maxHeartbeats 4000000 in
set_option maxRecDepth 100000 in
theorem tJ0_isLatin1_aae02 {l : Launch} {E : xE} {M : xM} {t : Nat} {Q : Int32 → xM → Prop} (h_t : xStp t) (h : wJ0_isLatin1_aae02 M t Q) : Ct l E mJ0_isLatin1_aae02 [.ref t] M (xRi Q) := by
  refine Ct_of (by decide +kernel) rfl (Nat.le_of_ble_eq_true rfl) ?_
  unfold wJ0_isLatin1_aae02 at h
  show Gx l E mJ0_isLatin1_aae02 (xRi Q) 0 M [some (.ref t)] []
  refine Gx_run (es := eJ0_isLatin1_aae02_0) (P := []) (M' := M) (L' := [some (.ref t)]) (st' := [.int (1 : Int32)]) (pc' := 3) kJ0_isLatin1_aae02_0 rfl trivial rfl ?_
  refine Gx_if_eq (off := 14) (tgt := 17) (by decide +kernel) (by decide) (fun z => absurd z (by decide)) (fun _ => ?_)
  refine Gx_run (es := eJ0_isLatin1_aae02_6) (P := [110 ≤ t, t < 119]) (M' := M) (L' := [some (.ref t)]) (st' := [.int (0 : Int32)]) (pc' := 10) kJ0_isLatin1_aae02_6 rfl ⟨h_t.1, h_t.2, trivial⟩ rfl ?_
  refine Gx_if_ne (off := 7) (tgt := 17) (by decide +kernel) (by decide) (fun z => absurd z (by decide)) (fun _ => ?_)
  refine Gx_run (es := eJ0_isLatin1_aae02_13) (P := []) (M' := M) (L' := [some (.ref t)]) (st' := [.int (1 : Int32)]) (pc' := 14) kJ0_isLatin1_aae02_13 rfl trivial rfl ?_
  refine Gx_goto (off := 4) (tgt := 18) (by decide +kernel) (by decide) ?_
  refine Gx_mask [false] (L' := [none]) rfl ?_
  exact tJ0_isLatin1_aae02_18 h_t  M h
def eJ1_canEncode_9a6ad_0 : List xI := [(.iload_n 0, 1, 0, 0, 0)]
theorem kJ1_canEncode_9a6ad_0 : xcode (xmb mJ1_canEncode_9a6ad) (xmo mJ1_canEncode_9a6ad) 0 eJ1_canEncode_9a6ad_0 = true := by decide +kernel
def eJ1_canEncode_9a6ad_15 : List xI := [(.iconst 0, 1, 0, 0, (0))]
theorem kJ1_canEncode_9a6ad_15 : xcode (xmb mJ1_canEncode_9a6ad) (xmo mJ1_canEncode_9a6ad) 15 eJ1_canEncode_9a6ad_15 = true := by decide +kernel
def eJ1_canEncode_9a6ad_4 : List xI := [(.iload_n 0, 1, 0, 0, 0), (.sipush 255, 3, 0, 0, (255))]
theorem kJ1_canEncode_9a6ad_4 : xcode (xmb mJ1_canEncode_9a6ad) (xmo mJ1_canEncode_9a6ad) 4 eJ1_canEncode_9a6ad_4 = true := by decide +kernel
def eJ1_canEncode_9a6ad_11 : List xI := [(.iconst 1, 1, 0, 0, (1))]
theorem kJ1_canEncode_9a6ad_11 : xcode (xmb mJ1_canEncode_9a6ad) (xmo mJ1_canEncode_9a6ad) 11 eJ1_canEncode_9a6ad_11 = true := by decide +kernel
def wJ1_canEncode_9a6ad_16 (p1 : Int32) (Q : Int32 → xM → Prop) (M : xM) (s0 : Int32) : Prop :=
    (s0 &&& 1 = s0) ∧ Q s0 M
set_option maxHeartbeats 4000000 in
set_option maxRecDepth 100000 in
theorem tJ1_canEncode_9a6ad_16 {l : Launch} {E : xE} {p1 : Int32} {Q : Int32 → xM → Prop} (M : xM) (s0 : Int32) (h : wJ1_canEncode_9a6ad_16 p1 Q M s0) : Gx l E mJ1_canEncode_9a6ad (xRi Q) 16 M [none] [.int s0] := by
  unfold wJ1_canEncode_9a6ad_16 at h
  exact Gx_iret (by decide +kernel) rfl (congrArg Value.int h.1) ⟨_, rfl, h.2⟩
def wJ1_canEncode_9a6ad_15 (p1 : Int32) (Q : Int32 → xM → Prop) (M : xM) : Prop :=
    wJ1_canEncode_9a6ad_16 p1 Q M (0 : Int32)
set_option maxHeartbeats 4000000 in
set_option maxRecDepth 100000 in
theorem tJ1_canEncode_9a6ad_15 {l : Launch} {E : xE} {p1 : Int32} {Q : Int32 → xM → Prop} (M : xM) (h : wJ1_canEncode_9a6ad_15 p1 Q M ) : Gx l E mJ1_canEncode_9a6ad (xRi Q) 15 M [none] [] := by
  unfold wJ1_canEncode_9a6ad_15 at h
  refine Gx_run (es := eJ1_canEncode_9a6ad_15) (P := []) (M' := M) (L' := [none]) (st' := [.int (0 : Int32)]) (pc' := 16) kJ1_canEncode_9a6ad_15 rfl trivial rfl ?_
  refine Gx_mask [false] (L' := [none]) rfl ?_
  exact tJ1_canEncode_9a6ad_16  M (0 : Int32) h
def wJ1_canEncode_9a6ad (M : xM) (p1 : Int32) (Q : Int32 → xM → Prop) : Prop :=
    (((p1 < 0) → (wJ1_canEncode_9a6ad_15 p1 Q M)) ∧ ((¬ p1 < 0) → (((((255 : Int32) < p1) → (wJ1_canEncode_9a6ad_15 p1 Q M)) ∧ ((¬ (255 : Int32) < p1) → (wJ1_canEncode_9a6ad_16 p1 Q M (1 : Int32)))))))
set_option maxHeartbeats 4000000 in
set_option maxRecDepth 100000 in
theorem tJ1_canEncode_9a6ad {l : Launch} {E : xE} {M : xM} {p1 : Int32} {Q : Int32 → xM → Prop} (h : wJ1_canEncode_9a6ad M p1 Q) : Ct l E mJ1_canEncode_9a6ad [.int p1] M (xRi Q) := by
  refine Ct_of (by decide +kernel) rfl (Nat.le_of_ble_eq_true rfl) ?_
  unfold wJ1_canEncode_9a6ad at h
  show Gx l E mJ1_canEncode_9a6ad (xRi Q) 0 M [some (.int p1)] []
  refine Gx_run (es := eJ1_canEncode_9a6ad_0) (P := []) (M' := M) (L' := [some (.int p1)]) (st' := [.int p1]) (pc' := 1) kJ1_canEncode_9a6ad_0 rfl trivial rfl ?_
  refine Gx_if_lt (off := 14) (tgt := 15) (by decide +kernel) (by decide) (fun z => ?_) (fun z => ?_)
  · have h := h.1 z
    refine Gx_mask [false] (L' := [none]) rfl ?_
    exact tJ1_canEncode_9a6ad_15  M h
  · have h := h.2 z
    refine Gx_run (es := eJ1_canEncode_9a6ad_4) (P := []) (M' := M) (L' := [some (.int p1)]) (st' := [.int (255 : Int32), .int p1]) (pc' := 8) kJ1_canEncode_9a6ad_4 rfl trivial rfl ?_
    refine Gx_icmp_gt (off := 7) (tgt := 15) (by decide +kernel) (by decide) (fun z => ?_) (fun z => ?_)
    · have h := h.1 z
      refine Gx_mask [false] (L' := [none]) rfl ?_
      exact tJ1_canEncode_9a6ad_15  M h
    · have h := h.2 z
      refine Gx_run (es := eJ1_canEncode_9a6ad_11) (P := []) (M' := M) (L' := [some (.int p1)]) (st' := [.int (1 : Int32)]) (pc' := 12) kJ1_canEncode_9a6ad_11 rfl trivial rfl ?_
      refine Gx_goto (off := 4) (tgt := 16) (by decide +kernel) (by decide) ?_
      refine Gx_mask [false] (L' := [none]) rfl ?_
      exact tJ1_canEncode_9a6ad_16  M (1 : Int32) h
def eJ1_indexOfChar_4cfef_0 : List xI := [(.iload_n 1, 1, 0, 0, 0), (.i2b, 1, 0, 0, 0), (.istore 4, 2, 0, 0, 0), (.iload_n 2, 1, 0, 0, 0), (.istore 5, 2, 0, 0, 0)]
theorem kJ1_indexOfChar_4cfef_0 : xcode (xmb mJ1_indexOfChar_4cfef) (xmo mJ1_indexOfChar_4cfef) 0 eJ1_indexOfChar_4cfef_0 = true := by decide +kernel
def eJ1_indexOfChar_4cfef_7 : List xI := [(.iload 5, 2, 0, 0, 0), (.iload_n 3, 1, 0, 0, 0)]
theorem kJ1_indexOfChar_4cfef_7 : xcode (xmb mJ1_indexOfChar_4cfef) (xmo mJ1_indexOfChar_4cfef) 7 eJ1_indexOfChar_4cfef_7 = true := by decide +kernel
def eJ1_indexOfChar_4cfef_31 : List xI := [(.iconst (-1), 1, 0, 0, (-1))]
theorem kJ1_indexOfChar_4cfef_31 : xcode (xmb mJ1_indexOfChar_4cfef) (xmo mJ1_indexOfChar_4cfef) 31 eJ1_indexOfChar_4cfef_31 = true := by decide +kernel
def eJ1_indexOfChar_4cfef_13 : List xI := [(.aload_n 0, 1, 0, 0, 0), (.iload 5, 2, 0, 0, 0), (.baload, 1, 0, 0, 0), (.iload 4, 2, 0, 0, 0)]
theorem kJ1_indexOfChar_4cfef_13 : xcode (xmb mJ1_indexOfChar_4cfef) (xmo mJ1_indexOfChar_4cfef) 13 eJ1_indexOfChar_4cfef_13 = true := by decide +kernel
def eJ1_indexOfChar_4cfef_25 : List xI := [(.iinc 5 1, 3, 0, 0, (1))]
theorem kJ1_indexOfChar_4cfef_25 : xcode (xmb mJ1_indexOfChar_4cfef) (xmo mJ1_indexOfChar_4cfef) 25 eJ1_indexOfChar_4cfef_25 = true := by decide +kernel
def eJ1_indexOfChar_4cfef_22 : List xI := [(.iload 5, 2, 0, 0, 0)]
theorem kJ1_indexOfChar_4cfef_22 : xcode (xmb mJ1_indexOfChar_4cfef) (xmo mJ1_indexOfChar_4cfef) 22 eJ1_indexOfChar_4cfef_22 = true := by decide +kernel
def lJ1_indexOfChar_4cfef_7 (p1 : Nat) (p2 : Int32) (p3 : Int32) (p4 : Int32) (Q : Int32 → xM → Prop) : Nat → xM → Int32 → Prop
  | 0 => fun _ _ => False
  | n + 1 => let k7 := lJ1_indexOfChar_4cfef_7 p1 p2 p3 p4 Q n; fun M a5 =>
    (((p4 ≤ a5) → (Q (-1 : Int32) M)) ∧ ((¬ p4 ≤ a5) → ((vp_in a5 (xsl (p1 - 130))) ∧ (((¬ (xsb (p1 - 130) a5.toNatClampNeg) = p2.toInt8.toInt32) → (k7 M (a5 + (1 : Int32)))) ∧ (((xsb (p1 - 130) a5.toNatClampNeg) = p2.toInt8.toInt32) → (Q a5 M))))))
set_option maxHeartbeats 4000000 in
set_option maxRecDepth 100000 in
theorem tJ1_indexOfChar_4cfef_7 {l : Launch} {E : xE} {p1 : Nat} {p2 : Int32} {p3 : Int32} {p4 : Int32} {Q : Int32 → xM → Prop} (h_p1 : xByt p1) (n : Nat) : ∀ (M : xM) (a5 : Int32), lJ1_indexOfChar_4cfef_7 p1 p2 p3 p4 Q n M a5 → Gx l E mJ1_indexOfChar_4cfef (xRi Q) 7 M [some (.ref p1), none, none, some (.int p4), some (.int p2.toInt8.toInt32), some (.int a5)] [] := by
  induction n with
  | zero => intro M a5 h; exact h.elim
  | succ n hk7 =>
      intro M a5 h
      unfold lJ1_indexOfChar_4cfef_7 at h
      dsimp only at h
      refine Gx_run (es := eJ1_indexOfChar_4cfef_7) (P := []) (M' := M) (L' := [some (.ref p1), none, none, some (.int p4), some (.int p2.toInt8.toInt32), some (.int a5)]) (st' := [.int p4, .int a5]) (pc' := 10) kJ1_indexOfChar_4cfef_7 rfl trivial rfl ?_
      refine Gx_icmp_ge (off := 21) (tgt := 31) (by decide +kernel) (by decide) (fun z => ?_) (fun z => ?_)
      · have h := h.1 z
        refine Gx_run (es := eJ1_indexOfChar_4cfef_31) (P := []) (M' := M) (L' := [some (.ref p1), none, none, some (.int p4), some (.int p2.toInt8.toInt32), some (.int a5)]) (st' := [.int (-1 : Int32)]) (pc' := 32) kJ1_indexOfChar_4cfef_31 rfl trivial rfl ?_
        exact Gx_iret (by decide +kernel) rfl rfl ⟨_, rfl, h⟩
      · have h := h.2 z
        obtain ⟨g13_0, h⟩ := h
        refine Gx_run (es := eJ1_indexOfChar_4cfef_13) (P := [130 ≤ p1, p1 < 139, vp_in a5 (xsl (p1 - 130))]) (M' := M) (L' := [some (.ref p1), none, none, some (.int p4), some (.int p2.toInt8.toInt32), some (.int a5)]) (st' := [.int p2.toInt8.toInt32, .int (xsb (p1 - 130) a5.toNatClampNeg)]) (pc' := 19) kJ1_indexOfChar_4cfef_13 rfl ⟨h_p1.1, h_p1.2, g13_0, trivial⟩ rfl ?_
        refine Gx_icmp_ne (off := 6) (tgt := 25) (by decide +kernel) (by decide) (fun z => ?_) (fun z => ?_)
        · have h := h.1 z
          refine Gx_run (es := eJ1_indexOfChar_4cfef_25) (P := []) (M' := M) (L' := [some (.ref p1), none, none, some (.int p4), some (.int p2.toInt8.toInt32), some (.int (a5 + (1 : Int32)))]) (st' := []) (pc' := 28) kJ1_indexOfChar_4cfef_25 rfl trivial rfl ?_
          refine Gx_goto (off := -21) (tgt := 7) (by decide +kernel) (by decide) ?_
          refine Gx_mask [true, false, false, true, true, true] (L' := [some (.ref p1), none, none, some (.int p4), some (.int p2.toInt8.toInt32), some (.int (a5 + (1 : Int32)))]) rfl ?_
          exact hk7 M (a5 + (1 : Int32)) h
        · have h := h.2 z
          refine Gx_run (es := eJ1_indexOfChar_4cfef_22) (P := []) (M' := M) (L' := [some (.ref p1), none, none, some (.int p4), some (.int p2.toInt8.toInt32), some (.int a5)]) (st' := [.int a5]) (pc' := 24) kJ1_indexOfChar_4cfef_22 rfl trivial rfl ?_
          exact Gx_iret (by decide +kernel) rfl rfl ⟨_, rfl, h⟩
def wJ1_indexOfChar_4cfef (M : xM) (p1 : Nat) (p2 : Int32) (p3 : Int32) (p4 : Int32) (Q : Int32 → xM → Prop) : Prop :=
    (∃ n : Nat, lJ1_indexOfChar_4cfef_7 p1 p2 p3 p4 Q n M p3)
set_option maxHeartbeats 4000000 in
set_option maxRecDepth 100000 in
theorem tJ1_indexOfChar_4cfef {l : Launch} {E : xE} {M : xM} {p1 : Nat} {p2 : Int32} {p3 : Int32} {p4 : Int32} {Q : Int32 → xM → Prop} (h_p1 : xByt p1) (h : wJ1_indexOfChar_4cfef M p1 p2 p3 p4 Q) : Ct l E mJ1_indexOfChar_4cfef [.ref p1, .int p2, .int p3, .int p4] M (xRi Q) := by
  refine Ct_of (by decide +kernel) rfl (Nat.le_of_ble_eq_true rfl) ?_
  unfold wJ1_indexOfChar_4cfef at h
  show Gx l E mJ1_indexOfChar_4cfef (xRi Q) 0 M [some (.ref p1), some (.int p2), some (.int p3), some (.int p4), none, none] []
  refine Gx_run (es := eJ1_indexOfChar_4cfef_0) (P := []) (M' := M) (L' := [some (.ref p1), some (.int p2), some (.int p3), some (.int p4), some (.int p2.toInt8.toInt32), some (.int p3)]) (st' := []) (pc' := 7) kJ1_indexOfChar_4cfef_0 rfl trivial rfl ?_
  refine Gx_mask [true, false, false, true, true, true] (L' := [some (.ref p1), none, none, some (.int p4), some (.int p2.toInt8.toInt32), some (.int p3)]) rfl ?_
  obtain ⟨n, h⟩ := h
  exact tJ1_indexOfChar_4cfef_7 h_p1  n M p3 h
def eJ3_checkIndex_8e157_0 : List xI := [(.iload_n 0, 1, 0, 0, 0)]
theorem kJ3_checkIndex_8e157_0 : xcode (xmb mJ3_checkIndex_8e157) (xmo mJ3_checkIndex_8e157) 0 eJ3_checkIndex_8e157_0 = true := by decide +kernel
def eJ3_checkIndex_8e157_9 : List xI := [(.aload_n 2, 1, 0, 0, 0), (.iload_n 0, 1, 0, 0, 0), (.iload_n 1, 1, 0, 0, 0)]
theorem kJ3_checkIndex_8e157_9 : xcode (xmb mJ3_checkIndex_8e157) (xmo mJ3_checkIndex_8e157) 9 eJ3_checkIndex_8e157_9 = true := by decide +kernel
def eJ3_checkIndex_8e157_4 : List xI := [(.iload_n 0, 1, 0, 0, 0), (.iload_n 1, 1, 0, 0, 0)]
theorem kJ3_checkIndex_8e157_4 : xcode (xmb mJ3_checkIndex_8e157) (xmo mJ3_checkIndex_8e157) 4 eJ3_checkIndex_8e157_4 = true := by decide +kernel
def eJ3_checkIndex_8e157_16 : List xI := [(.iload_n 0, 1, 0, 0, 0)]
theorem kJ3_checkIndex_8e157_16 : xcode (xmb mJ3_checkIndex_8e157) (xmo mJ3_checkIndex_8e157) 16 eJ3_checkIndex_8e157_16 = true := by decide +kernel
def wJ3_checkIndex_8e157_9 (p1 : Int32) (p2 : Int32) (p3 : Nat) (Q : Int32 → xM → Prop) (M : xM) : Prop :=
    False
set_option maxHeartbeats 4000000 in
set_option maxRecDepth 100000 in
theorem tJ3_checkIndex_8e157_9 {l : Launch} {E : xE} {p1 : Int32} {p2 : Int32} {p3 : Nat} {Q : Int32 → xM → Prop} (h_p3 : xAny p3) (M : xM) (h : wJ3_checkIndex_8e157_9 p1 p2 p3 Q M ) : Gx l E mJ3_checkIndex_8e157 (xRi Q) 9 M [some (.int p1), some (.int p2), some (.ref p3)] [] := by
  unfold wJ3_checkIndex_8e157_9 at h
  refine Gx_run (es := eJ3_checkIndex_8e157_9) (P := []) (M' := M) (L' := [some (.int p1), some (.int p2), some (.ref p3)]) (st' := [.int p2, .int p1, .ref p3]) (pc' := 12) kJ3_checkIndex_8e157_9 rfl trivial rfl ?_
  exact h.elim
def wJ3_checkIndex_8e157 (M : xM) (p1 : Int32) (p2 : Int32) (p3 : Nat) (Q : Int32 → xM → Prop) : Prop :=
    (((p1 < 0) → (wJ3_checkIndex_8e157_9 p1 p2 p3 Q M)) ∧ ((¬ p1 < 0) → ((((p1 < p2) → (Q p1 M)) ∧ ((¬ p1 < p2) → (wJ3_checkIndex_8e157_9 p1 p2 p3 Q M))))))
set_option maxHeartbeats 4000000 in
set_option maxRecDepth 100000 in
theorem tJ3_checkIndex_8e157 {l : Launch} {E : xE} {M : xM} {p1 : Int32} {p2 : Int32} {p3 : Nat} {Q : Int32 → xM → Prop} (h_p3 : xAny p3) (h : wJ3_checkIndex_8e157 M p1 p2 p3 Q) : Ct l E mJ3_checkIndex_8e157 [.int p1, .int p2, .ref p3] M (xRi Q) := by
  refine Ct_of (by decide +kernel) rfl (Nat.le_of_ble_eq_true rfl) ?_
  unfold wJ3_checkIndex_8e157 at h
  show Gx l E mJ3_checkIndex_8e157 (xRi Q) 0 M [some (.int p1), some (.int p2), some (.ref p3)] []
  refine Gx_run (es := eJ3_checkIndex_8e157_0) (P := []) (M' := M) (L' := [some (.int p1), some (.int p2), some (.ref p3)]) (st' := [.int p1]) (pc' := 1) kJ3_checkIndex_8e157_0 rfl trivial rfl ?_
  refine Gx_if_lt (off := 8) (tgt := 9) (by decide +kernel) (by decide) (fun z => ?_) (fun z => ?_)
  · have h := h.1 z
    refine Gx_mask [true, true, true] (L' := [some (.int p1), some (.int p2), some (.ref p3)]) rfl ?_
    exact tJ3_checkIndex_8e157_9 h_p3  M h
  · have h := h.2 z
    refine Gx_run (es := eJ3_checkIndex_8e157_4) (P := []) (M' := M) (L' := [some (.int p1), some (.int p2), some (.ref p3)]) (st' := [.int p2, .int p1]) (pc' := 6) kJ3_checkIndex_8e157_4 rfl trivial rfl ?_
    refine Gx_icmp_lt (off := 10) (tgt := 16) (by decide +kernel) (by decide) (fun z => ?_) (fun z => ?_)
    · have h := h.1 z
      refine Gx_run (es := eJ3_checkIndex_8e157_16) (P := []) (M' := M) (L' := [some (.int p1), some (.int p2), some (.ref p3)]) (st' := [.int p1]) (pc' := 17) kJ3_checkIndex_8e157_16 rfl trivial rfl ?_
      exact Gx_iret (by decide +kernel) rfl rfl ⟨_, rfl, h⟩
    · have h := h.2 z
      refine Gx_mask [true, true, true] (L' := [some (.int p1), some (.int p2), some (.ref p3)]) rfl ?_
      exact tJ3_checkIndex_8e157_9 h_p3  M h
def eJ6_bitCount_0f7a4_0 : List xI := [(.iload_n 0, 1, 0, 0, 0), (.iload_n 0, 1, 0, 0, 0), (.iconst 1, 1, 0, 0, (1)), (.iushr, 1, 0, 0, 0), (.ldc_w 265, 3, 0, 0, (1431655765)), (.iand, 1, 0, 0, 0), (.isub, 1, 0, 0, 0), (.istore_n 0, 1, 0, 0, 0), (.iload_n 0, 1, 0, 0, 0), (.ldc_w 266, 3, 0, 0, (858993459)), (.iand, 1, 0, 0, 0), (.iload_n 0, 1, 0, 0, 0), (.iconst 2, 1, 0, 0, (2)), (.iushr, 1, 0, 0, 0), (.ldc_w 266, 3, 0, 0, (858993459)), (.iand, 1, 0, 0, 0), (.iadd, 1, 0, 0, 0), (.istore_n 0, 1, 0, 0, 0), (.iload_n 0, 1, 0, 0, 0), (.iload_n 0, 1, 0, 0, 0), (.iconst 4, 1, 0, 0, (4)), (.iushr, 1, 0, 0, 0), (.iadd, 1, 0, 0, 0), (.ldc_w 267, 3, 0, 0, (252645135)), (.iand, 1, 0, 0, 0), (.istore_n 0, 1, 0, 0, 0), (.iload_n 0, 1, 0, 0, 0), (.iload_n 0, 1, 0, 0, 0), (.bipush 8, 2, 0, 0, (8)), (.iushr, 1, 0, 0, 0), (.iadd, 1, 0, 0, 0), (.istore_n 0, 1, 0, 0, 0), (.iload_n 0, 1, 0, 0, 0), (.iload_n 0, 1, 0, 0, 0), (.bipush 16, 2, 0, 0, (16)), (.iushr, 1, 0, 0, 0), (.iadd, 1, 0, 0, 0), (.istore_n 0, 1, 0, 0, 0), (.iload_n 0, 1, 0, 0, 0), (.bipush 63, 2, 0, 0, (63)), (.iand, 1, 0, 0, 0)]
theorem kJ6_bitCount_0f7a4_0 : xcode (xmb mJ6_bitCount_0f7a4) (xmo mJ6_bitCount_0f7a4) 0 eJ6_bitCount_0f7a4_0 = true := by decide +kernel
def wJ6_bitCount_0f7a4 (M : xM) (p1 : Int32) (Q : Int32 → xM → Prop) : Prop :=
    Q ((((((((p1 - ((p1.toUInt32 >>> ((1 : Int32).toUInt32 &&& Int32.toUInt32 31)).toInt32 &&& (1431655765 : Int32))) &&& (858993459 : Int32)) + (((p1 - ((p1.toUInt32 >>> ((1 : Int32).toUInt32 &&& Int32.toUInt32 31)).toInt32 &&& (1431655765 : Int32))).toUInt32 >>> ((2 : Int32).toUInt32 &&& Int32.toUInt32 31)).toInt32 &&& (858993459 : Int32))) + ((((p1 - ((p1.toUInt32 >>> ((1 : Int32).toUInt32 &&& Int32.toUInt32 31)).toInt32 &&& (1431655765 : Int32))) &&& (858993459 : Int32)) + (((p1 - ((p1.toUInt32 >>> ((1 : Int32).toUInt32 &&& Int32.toUInt32 31)).toInt32 &&& (1431655765 : Int32))).toUInt32 >>> ((2 : Int32).toUInt32 &&& Int32.toUInt32 31)).toInt32 &&& (858993459 : Int32))).toUInt32 >>> ((4 : Int32).toUInt32 &&& Int32.toUInt32 31)).toInt32) &&& (252645135 : Int32)) + ((((((p1 - ((p1.toUInt32 >>> ((1 : Int32).toUInt32 &&& Int32.toUInt32 31)).toInt32 &&& (1431655765 : Int32))) &&& (858993459 : Int32)) + (((p1 - ((p1.toUInt32 >>> ((1 : Int32).toUInt32 &&& Int32.toUInt32 31)).toInt32 &&& (1431655765 : Int32))).toUInt32 >>> ((2 : Int32).toUInt32 &&& Int32.toUInt32 31)).toInt32 &&& (858993459 : Int32))) + ((((p1 - ((p1.toUInt32 >>> ((1 : Int32).toUInt32 &&& Int32.toUInt32 31)).toInt32 &&& (1431655765 : Int32))) &&& (858993459 : Int32)) + (((p1 - ((p1.toUInt32 >>> ((1 : Int32).toUInt32 &&& Int32.toUInt32 31)).toInt32 &&& (1431655765 : Int32))).toUInt32 >>> ((2 : Int32).toUInt32 &&& Int32.toUInt32 31)).toInt32 &&& (858993459 : Int32))).toUInt32 >>> ((4 : Int32).toUInt32 &&& Int32.toUInt32 31)).toInt32) &&& (252645135 : Int32)).toUInt32 >>> ((8 : Int32).toUInt32 &&& Int32.toUInt32 31)).toInt32) + (((((((p1 - ((p1.toUInt32 >>> ((1 : Int32).toUInt32 &&& Int32.toUInt32 31)).toInt32 &&& (1431655765 : Int32))) &&& (858993459 : Int32)) + (((p1 - ((p1.toUInt32 >>> ((1 : Int32).toUInt32 &&& Int32.toUInt32 31)).toInt32 &&& (1431655765 : Int32))).toUInt32 >>> ((2 : Int32).toUInt32 &&& Int32.toUInt32 31)).toInt32 &&& (858993459 : Int32))) + ((((p1 - ((p1.toUInt32 >>> ((1 : Int32).toUInt32 &&& Int32.toUInt32 31)).toInt32 &&& (1431655765 : Int32))) &&& (858993459 : Int32)) + (((p1 - ((p1.toUInt32 >>> ((1 : Int32).toUInt32 &&& Int32.toUInt32 31)).toInt32 &&& (1431655765 : Int32))).toUInt32 >>> ((2 : Int32).toUInt32 &&& Int32.toUInt32 31)).toInt32 &&& (858993459 : Int32))).toUInt32 >>> ((4 : Int32).toUInt32 &&& Int32.toUInt32 31)).toInt32) &&& (252645135 : Int32)) + ((((((p1 - ((p1.toUInt32 >>> ((1 : Int32).toUInt32 &&& Int32.toUInt32 31)).toInt32 &&& (1431655765 : Int32))) &&& (858993459 : Int32)) + (((p1 - ((p1.toUInt32 >>> ((1 : Int32).toUInt32 &&& Int32.toUInt32 31)).toInt32 &&& (1431655765 : Int32))).toUInt32 >>> ((2 : Int32).toUInt32 &&& Int32.toUInt32 31)).toInt32 &&& (858993459 : Int32))) + ((((p1 - ((p1.toUInt32 >>> ((1 : Int32).toUInt32 &&& Int32.toUInt32 31)).toInt32 &&& (1431655765 : Int32))) &&& (858993459 : Int32)) + (((p1 - ((p1.toUInt32 >>> ((1 : Int32).toUInt32 &&& Int32.toUInt32 31)).toInt32 &&& (1431655765 : Int32))).toUInt32 >>> ((2 : Int32).toUInt32 &&& Int32.toUInt32 31)).toInt32 &&& (858993459 : Int32))).toUInt32 >>> ((4 : Int32).toUInt32 &&& Int32.toUInt32 31)).toInt32) &&& (252645135 : Int32)).toUInt32 >>> ((8 : Int32).toUInt32 &&& Int32.toUInt32 31)).toInt32).toUInt32 >>> ((16 : Int32).toUInt32 &&& Int32.toUInt32 31)).toInt32) &&& (63 : Int32)) M
set_option maxHeartbeats 4000000 in
set_option maxRecDepth 100000 in
theorem tJ6_bitCount_0f7a4 {l : Launch} {E : xE} {M : xM} {p1 : Int32} {Q : Int32 → xM → Prop} (h : wJ6_bitCount_0f7a4 M p1 Q) : Ct l E mJ6_bitCount_0f7a4 [.int p1] M (xRi Q) := by
  refine Ct_of (by decide +kernel) rfl (Nat.le_of_ble_eq_true rfl) ?_
  unfold wJ6_bitCount_0f7a4 at h
  show Gx l E mJ6_bitCount_0f7a4 (xRi Q) 0 M [some (.int p1)] []
  refine Gx_run (es := eJ6_bitCount_0f7a4_0) (P := []) (M' := M) (L' := [some (.int (((((((p1 - ((p1.toUInt32 >>> ((1 : Int32).toUInt32 &&& Int32.toUInt32 31)).toInt32 &&& (1431655765 : Int32))) &&& (858993459 : Int32)) + (((p1 - ((p1.toUInt32 >>> ((1 : Int32).toUInt32 &&& Int32.toUInt32 31)).toInt32 &&& (1431655765 : Int32))).toUInt32 >>> ((2 : Int32).toUInt32 &&& Int32.toUInt32 31)).toInt32 &&& (858993459 : Int32))) + ((((p1 - ((p1.toUInt32 >>> ((1 : Int32).toUInt32 &&& Int32.toUInt32 31)).toInt32 &&& (1431655765 : Int32))) &&& (858993459 : Int32)) + (((p1 - ((p1.toUInt32 >>> ((1 : Int32).toUInt32 &&& Int32.toUInt32 31)).toInt32 &&& (1431655765 : Int32))).toUInt32 >>> ((2 : Int32).toUInt32 &&& Int32.toUInt32 31)).toInt32 &&& (858993459 : Int32))).toUInt32 >>> ((4 : Int32).toUInt32 &&& Int32.toUInt32 31)).toInt32) &&& (252645135 : Int32)) + ((((((p1 - ((p1.toUInt32 >>> ((1 : Int32).toUInt32 &&& Int32.toUInt32 31)).toInt32 &&& (1431655765 : Int32))) &&& (858993459 : Int32)) + (((p1 - ((p1.toUInt32 >>> ((1 : Int32).toUInt32 &&& Int32.toUInt32 31)).toInt32 &&& (1431655765 : Int32))).toUInt32 >>> ((2 : Int32).toUInt32 &&& Int32.toUInt32 31)).toInt32 &&& (858993459 : Int32))) + ((((p1 - ((p1.toUInt32 >>> ((1 : Int32).toUInt32 &&& Int32.toUInt32 31)).toInt32 &&& (1431655765 : Int32))) &&& (858993459 : Int32)) + (((p1 - ((p1.toUInt32 >>> ((1 : Int32).toUInt32 &&& Int32.toUInt32 31)).toInt32 &&& (1431655765 : Int32))).toUInt32 >>> ((2 : Int32).toUInt32 &&& Int32.toUInt32 31)).toInt32 &&& (858993459 : Int32))).toUInt32 >>> ((4 : Int32).toUInt32 &&& Int32.toUInt32 31)).toInt32) &&& (252645135 : Int32)).toUInt32 >>> ((8 : Int32).toUInt32 &&& Int32.toUInt32 31)).toInt32) + (((((((p1 - ((p1.toUInt32 >>> ((1 : Int32).toUInt32 &&& Int32.toUInt32 31)).toInt32 &&& (1431655765 : Int32))) &&& (858993459 : Int32)) + (((p1 - ((p1.toUInt32 >>> ((1 : Int32).toUInt32 &&& Int32.toUInt32 31)).toInt32 &&& (1431655765 : Int32))).toUInt32 >>> ((2 : Int32).toUInt32 &&& Int32.toUInt32 31)).toInt32 &&& (858993459 : Int32))) + ((((p1 - ((p1.toUInt32 >>> ((1 : Int32).toUInt32 &&& Int32.toUInt32 31)).toInt32 &&& (1431655765 : Int32))) &&& (858993459 : Int32)) + (((p1 - ((p1.toUInt32 >>> ((1 : Int32).toUInt32 &&& Int32.toUInt32 31)).toInt32 &&& (1431655765 : Int32))).toUInt32 >>> ((2 : Int32).toUInt32 &&& Int32.toUInt32 31)).toInt32 &&& (858993459 : Int32))).toUInt32 >>> ((4 : Int32).toUInt32 &&& Int32.toUInt32 31)).toInt32) &&& (252645135 : Int32)) + ((((((p1 - ((p1.toUInt32 >>> ((1 : Int32).toUInt32 &&& Int32.toUInt32 31)).toInt32 &&& (1431655765 : Int32))) &&& (858993459 : Int32)) + (((p1 - ((p1.toUInt32 >>> ((1 : Int32).toUInt32 &&& Int32.toUInt32 31)).toInt32 &&& (1431655765 : Int32))).toUInt32 >>> ((2 : Int32).toUInt32 &&& Int32.toUInt32 31)).toInt32 &&& (858993459 : Int32))) + ((((p1 - ((p1.toUInt32 >>> ((1 : Int32).toUInt32 &&& Int32.toUInt32 31)).toInt32 &&& (1431655765 : Int32))) &&& (858993459 : Int32)) + (((p1 - ((p1.toUInt32 >>> ((1 : Int32).toUInt32 &&& Int32.toUInt32 31)).toInt32 &&& (1431655765 : Int32))).toUInt32 >>> ((2 : Int32).toUInt32 &&& Int32.toUInt32 31)).toInt32 &&& (858993459 : Int32))).toUInt32 >>> ((4 : Int32).toUInt32 &&& Int32.toUInt32 31)).toInt32) &&& (252645135 : Int32)).toUInt32 >>> ((8 : Int32).toUInt32 &&& Int32.toUInt32 31)).toInt32).toUInt32 >>> ((16 : Int32).toUInt32 &&& Int32.toUInt32 31)).toInt32))]) (st' := [.int ((((((((p1 - ((p1.toUInt32 >>> ((1 : Int32).toUInt32 &&& Int32.toUInt32 31)).toInt32 &&& (1431655765 : Int32))) &&& (858993459 : Int32)) + (((p1 - ((p1.toUInt32 >>> ((1 : Int32).toUInt32 &&& Int32.toUInt32 31)).toInt32 &&& (1431655765 : Int32))).toUInt32 >>> ((2 : Int32).toUInt32 &&& Int32.toUInt32 31)).toInt32 &&& (858993459 : Int32))) + ((((p1 - ((p1.toUInt32 >>> ((1 : Int32).toUInt32 &&& Int32.toUInt32 31)).toInt32 &&& (1431655765 : Int32))) &&& (858993459 : Int32)) + (((p1 - ((p1.toUInt32 >>> ((1 : Int32).toUInt32 &&& Int32.toUInt32 31)).toInt32 &&& (1431655765 : Int32))).toUInt32 >>> ((2 : Int32).toUInt32 &&& Int32.toUInt32 31)).toInt32 &&& (858993459 : Int32))).toUInt32 >>> ((4 : Int32).toUInt32 &&& Int32.toUInt32 31)).toInt32) &&& (252645135 : Int32)) + ((((((p1 - ((p1.toUInt32 >>> ((1 : Int32).toUInt32 &&& Int32.toUInt32 31)).toInt32 &&& (1431655765 : Int32))) &&& (858993459 : Int32)) + (((p1 - ((p1.toUInt32 >>> ((1 : Int32).toUInt32 &&& Int32.toUInt32 31)).toInt32 &&& (1431655765 : Int32))).toUInt32 >>> ((2 : Int32).toUInt32 &&& Int32.toUInt32 31)).toInt32 &&& (858993459 : Int32))) + ((((p1 - ((p1.toUInt32 >>> ((1 : Int32).toUInt32 &&& Int32.toUInt32 31)).toInt32 &&& (1431655765 : Int32))) &&& (858993459 : Int32)) + (((p1 - ((p1.toUInt32 >>> ((1 : Int32).toUInt32 &&& Int32.toUInt32 31)).toInt32 &&& (1431655765 : Int32))).toUInt32 >>> ((2 : Int32).toUInt32 &&& Int32.toUInt32 31)).toInt32 &&& (858993459 : Int32))).toUInt32 >>> ((4 : Int32).toUInt32 &&& Int32.toUInt32 31)).toInt32) &&& (252645135 : Int32)).toUInt32 >>> ((8 : Int32).toUInt32 &&& Int32.toUInt32 31)).toInt32) + (((((((p1 - ((p1.toUInt32 >>> ((1 : Int32).toUInt32 &&& Int32.toUInt32 31)).toInt32 &&& (1431655765 : Int32))) &&& (858993459 : Int32)) + (((p1 - ((p1.toUInt32 >>> ((1 : Int32).toUInt32 &&& Int32.toUInt32 31)).toInt32 &&& (1431655765 : Int32))).toUInt32 >>> ((2 : Int32).toUInt32 &&& Int32.toUInt32 31)).toInt32 &&& (858993459 : Int32))) + ((((p1 - ((p1.toUInt32 >>> ((1 : Int32).toUInt32 &&& Int32.toUInt32 31)).toInt32 &&& (1431655765 : Int32))) &&& (858993459 : Int32)) + (((p1 - ((p1.toUInt32 >>> ((1 : Int32).toUInt32 &&& Int32.toUInt32 31)).toInt32 &&& (1431655765 : Int32))).toUInt32 >>> ((2 : Int32).toUInt32 &&& Int32.toUInt32 31)).toInt32 &&& (858993459 : Int32))).toUInt32 >>> ((4 : Int32).toUInt32 &&& Int32.toUInt32 31)).toInt32) &&& (252645135 : Int32)) + ((((((p1 - ((p1.toUInt32 >>> ((1 : Int32).toUInt32 &&& Int32.toUInt32 31)).toInt32 &&& (1431655765 : Int32))) &&& (858993459 : Int32)) + (((p1 - ((p1.toUInt32 >>> ((1 : Int32).toUInt32 &&& Int32.toUInt32 31)).toInt32 &&& (1431655765 : Int32))).toUInt32 >>> ((2 : Int32).toUInt32 &&& Int32.toUInt32 31)).toInt32 &&& (858993459 : Int32))) + ((((p1 - ((p1.toUInt32 >>> ((1 : Int32).toUInt32 &&& Int32.toUInt32 31)).toInt32 &&& (1431655765 : Int32))) &&& (858993459 : Int32)) + (((p1 - ((p1.toUInt32 >>> ((1 : Int32).toUInt32 &&& Int32.toUInt32 31)).toInt32 &&& (1431655765 : Int32))).toUInt32 >>> ((2 : Int32).toUInt32 &&& Int32.toUInt32 31)).toInt32 &&& (858993459 : Int32))).toUInt32 >>> ((4 : Int32).toUInt32 &&& Int32.toUInt32 31)).toInt32) &&& (252645135 : Int32)).toUInt32 >>> ((8 : Int32).toUInt32 &&& Int32.toUInt32 31)).toInt32).toUInt32 >>> ((16 : Int32).toUInt32 &&& Int32.toUInt32 31)).toInt32) &&& (63 : Int32))]) (pc' := 52) kJ6_bitCount_0f7a4_0 rfl trivial rfl ?_
  exact Gx_iret (by decide +kernel) rfl rfl ⟨_, rfl, h⟩
def eJ6_numberOfTrailingZeros_0f7a4_0 : List xI := [(.iload_n 0, 1, 0, 0, 0), (.iconst (-1), 1, 0, 0, (-1)), (.ixor, 1, 0, 0, 0), (.iload_n 0, 1, 0, 0, 0), (.iconst 1, 1, 0, 0, (1)), (.isub, 1, 0, 0, 0), (.iand, 1, 0, 0, 0), (.istore_n 0, 1, 0, 0, 0), (.iload_n 0, 1, 0, 0, 0)]
theorem kJ6_numberOfTrailingZeros_0f7a4_0 : xcode (xmb mJ6_numberOfTrailingZeros_0f7a4) (xmo mJ6_numberOfTrailingZeros_0f7a4) 0 eJ6_numberOfTrailingZeros_0f7a4_0 = true := by decide +kernel
def eJ6_numberOfTrailingZeros_0f7a4_17 : List xI := [(.iconst 1, 1, 0, 0, (1)), (.istore_n 1, 1, 0, 0, 0), (.iload_n 0, 1, 0, 0, 0), (.ldc_w 264, 3, 0, 0, (65536))]
theorem kJ6_numberOfTrailingZeros_0f7a4_17 : xcode (xmb mJ6_numberOfTrailingZeros_0f7a4) (xmo mJ6_numberOfTrailingZeros_0f7a4) 17 eJ6_numberOfTrailingZeros_0f7a4_17 = true := by decide +kernel
def eJ6_numberOfTrailingZeros_0f7a4_34 : List xI := [(.iload_n 0, 1, 0, 0, 0), (.sipush 256, 3, 0, 0, (256))]
theorem kJ6_numberOfTrailingZeros_0f7a4_34 : xcode (xmb mJ6_numberOfTrailingZeros_0f7a4) (xmo mJ6_numberOfTrailingZeros_0f7a4) 34 eJ6_numberOfTrailingZeros_0f7a4_34 = true := by decide +kernel
def eJ6_numberOfTrailingZeros_0f7a4_49 : List xI := [(.iload_n 0, 1, 0, 0, 0), (.bipush 16, 2, 0, 0, (16))]
theorem kJ6_numberOfTrailingZeros_0f7a4_49 : xcode (xmb mJ6_numberOfTrailingZeros_0f7a4) (xmo mJ6_numberOfTrailingZeros_0f7a4) 49 eJ6_numberOfTrailingZeros_0f7a4_49 = true := by decide +kernel
def eJ6_numberOfTrailingZeros_0f7a4_62 : List xI := [(.iload_n 0, 1, 0, 0, 0), (.iconst 4, 1, 0, 0, (4))]
theorem kJ6_numberOfTrailingZeros_0f7a4_62 : xcode (xmb mJ6_numberOfTrailingZeros_0f7a4) (xmo mJ6_numberOfTrailingZeros_0f7a4) 62 eJ6_numberOfTrailingZeros_0f7a4_62 = true := by decide +kernel
def eJ6_numberOfTrailingZeros_0f7a4_74 : List xI := [(.iload_n 1, 1, 0, 0, 0), (.iload_n 0, 1, 0, 0, 0), (.iconst 1, 1, 0, 0, (1)), (.iushr, 1, 0, 0, 0), (.iadd, 1, 0, 0, 0)]
theorem kJ6_numberOfTrailingZeros_0f7a4_74 : xcode (xmb mJ6_numberOfTrailingZeros_0f7a4) (xmo mJ6_numberOfTrailingZeros_0f7a4) 74 eJ6_numberOfTrailingZeros_0f7a4_74 = true := by decide +kernel
def eJ6_numberOfTrailingZeros_0f7a4_67 : List xI := [(.iinc 1 2, 3, 0, 0, (2)), (.iload_n 0, 1, 0, 0, 0), (.iconst 2, 1, 0, 0, (2)), (.iushr, 1, 0, 0, 0), (.istore_n 0, 1, 0, 0, 0)]
theorem kJ6_numberOfTrailingZeros_0f7a4_67 : xcode (xmb mJ6_numberOfTrailingZeros_0f7a4) (xmo mJ6_numberOfTrailingZeros_0f7a4) 67 eJ6_numberOfTrailingZeros_0f7a4_67 = true := by decide +kernel
def eJ6_numberOfTrailingZeros_0f7a4_55 : List xI := [(.iinc 1 4, 3, 0, 0, (4)), (.iload_n 0, 1, 0, 0, 0), (.iconst 4, 1, 0, 0, (4)), (.iushr, 1, 0, 0, 0), (.istore_n 0, 1, 0, 0, 0)]
theorem kJ6_numberOfTrailingZeros_0f7a4_55 : xcode (xmb mJ6_numberOfTrailingZeros_0f7a4) (xmo mJ6_numberOfTrailingZeros_0f7a4) 55 eJ6_numberOfTrailingZeros_0f7a4_55 = true := by decide +kernel
def eJ6_numberOfTrailingZeros_0f7a4_41 : List xI := [(.iinc 1 8, 3, 0, 0, (8)), (.iload_n 0, 1, 0, 0, 0), (.bipush 8, 2, 0, 0, (8)), (.iushr, 1, 0, 0, 0), (.istore_n 0, 1, 0, 0, 0)]
theorem kJ6_numberOfTrailingZeros_0f7a4_41 : xcode (xmb mJ6_numberOfTrailingZeros_0f7a4) (xmo mJ6_numberOfTrailingZeros_0f7a4) 41 eJ6_numberOfTrailingZeros_0f7a4_41 = true := by decide +kernel
def eJ6_numberOfTrailingZeros_0f7a4_26 : List xI := [(.iinc 1 16, 3, 0, 0, (16)), (.iload_n 0, 1, 0, 0, 0), (.bipush 16, 2, 0, 0, (16)), (.iushr, 1, 0, 0, 0), (.istore_n 0, 1, 0, 0, 0)]
theorem kJ6_numberOfTrailingZeros_0f7a4_26 : xcode (xmb mJ6_numberOfTrailingZeros_0f7a4) (xmo mJ6_numberOfTrailingZeros_0f7a4) 26 eJ6_numberOfTrailingZeros_0f7a4_26 = true := by decide +kernel
def eJ6_numberOfTrailingZeros_0f7a4_12 : List xI := [(.iload_n 0, 1, 0, 0, 0), (.bipush 32, 2, 0, 0, (32)), (.iand, 1, 0, 0, 0)]
theorem kJ6_numberOfTrailingZeros_0f7a4_12 : xcode (xmb mJ6_numberOfTrailingZeros_0f7a4) (xmo mJ6_numberOfTrailingZeros_0f7a4) 12 eJ6_numberOfTrailingZeros_0f7a4_12 = true := by decide +kernel
def wJ6_numberOfTrailingZeros_0f7a4_74 (p1 : Int32) (Q : Int32 → xM → Prop) (M : xM) (a0 : Int32) (a1 : Int32) : Prop :=
    Q (a1 + (a0.toUInt32 >>> ((1 : Int32).toUInt32 &&& Int32.toUInt32 31)).toInt32) M
set_option maxHeartbeats 4000000 in
set_option maxRecDepth 100000 in
theorem tJ6_numberOfTrailingZeros_0f7a4_74 {l : Launch} {E : xE} {p1 : Int32} {Q : Int32 → xM → Prop} (M : xM) (a0 : Int32) (a1 : Int32) (h : wJ6_numberOfTrailingZeros_0f7a4_74 p1 Q M a0 a1) : Gx l E mJ6_numberOfTrailingZeros_0f7a4 (xRi Q) 74 M [some (.int a0), some (.int a1)] [] := by
  unfold wJ6_numberOfTrailingZeros_0f7a4_74 at h
  refine Gx_run (es := eJ6_numberOfTrailingZeros_0f7a4_74) (P := []) (M' := M) (L' := [some (.int a0), some (.int a1)]) (st' := [.int (a1 + (a0.toUInt32 >>> ((1 : Int32).toUInt32 &&& Int32.toUInt32 31)).toInt32)]) (pc' := 79) kJ6_numberOfTrailingZeros_0f7a4_74 rfl trivial rfl ?_
  exact Gx_iret (by decide +kernel) rfl rfl ⟨_, rfl, h⟩
def wJ6_numberOfTrailingZeros_0f7a4_62 (p1 : Int32) (Q : Int32 → xM → Prop) (M : xM) (a0 : Int32) (a1 : Int32) : Prop :=
    (((a0 ≤ (4 : Int32)) → (wJ6_numberOfTrailingZeros_0f7a4_74 p1 Q M a0 a1)) ∧ ((¬ a0 ≤ (4 : Int32)) → (wJ6_numberOfTrailingZeros_0f7a4_74 p1 Q M (a0.toUInt32 >>> ((2 : Int32).toUInt32 &&& Int32.toUInt32 31)).toInt32 (a1 + (2 : Int32)))))
set_option maxHeartbeats 4000000 in
set_option maxRecDepth 100000 in
theorem tJ6_numberOfTrailingZeros_0f7a4_62 {l : Launch} {E : xE} {p1 : Int32} {Q : Int32 → xM → Prop} (M : xM) (a0 : Int32) (a1 : Int32) (h : wJ6_numberOfTrailingZeros_0f7a4_62 p1 Q M a0 a1) : Gx l E mJ6_numberOfTrailingZeros_0f7a4 (xRi Q) 62 M [some (.int a0), some (.int a1)] [] := by
  unfold wJ6_numberOfTrailingZeros_0f7a4_62 at h
  refine Gx_run (es := eJ6_numberOfTrailingZeros_0f7a4_62) (P := []) (M' := M) (L' := [some (.int a0), some (.int a1)]) (st' := [.int (4 : Int32), .int a0]) (pc' := 64) kJ6_numberOfTrailingZeros_0f7a4_62 rfl trivial rfl ?_
  refine Gx_icmp_le (off := 10) (tgt := 74) (by decide +kernel) (by decide) (fun z => ?_) (fun z => ?_)
  · have h := h.1 z
    refine Gx_mask [true, true] (L' := [some (.int a0), some (.int a1)]) rfl ?_
    exact tJ6_numberOfTrailingZeros_0f7a4_74  M a0 a1 h
  · have h := h.2 z
    refine Gx_run (es := eJ6_numberOfTrailingZeros_0f7a4_67) (P := []) (M' := M) (L' := [some (.int (a0.toUInt32 >>> ((2 : Int32).toUInt32 &&& Int32.toUInt32 31)).toInt32), some (.int (a1 + (2 : Int32)))]) (st' := []) (pc' := 74) kJ6_numberOfTrailingZeros_0f7a4_67 rfl trivial rfl ?_
    refine Gx_mask [true, true] (L' := [some (.int (a0.toUInt32 >>> ((2 : Int32).toUInt32 &&& Int32.toUInt32 31)).toInt32), some (.int (a1 + (2 : Int32)))]) rfl ?_
    exact tJ6_numberOfTrailingZeros_0f7a4_74  M (a0.toUInt32 >>> ((2 : Int32).toUInt32 &&& Int32.toUInt32 31)).toInt32 (a1 + (2 : Int32)) h
def wJ6_numberOfTrailingZeros_0f7a4_49 (p1 : Int32) (Q : Int32 → xM → Prop) (M : xM) (a0 : Int32) (a1 : Int32) : Prop :=
    (((a0 ≤ (16 : Int32)) → (wJ6_numberOfTrailingZeros_0f7a4_62 p1 Q M a0 a1)) ∧ ((¬ a0 ≤ (16 : Int32)) → (wJ6_numberOfTrailingZeros_0f7a4_62 p1 Q M (a0.toUInt32 >>> ((4 : Int32).toUInt32 &&& Int32.toUInt32 31)).toInt32 (a1 + (4 : Int32)))))
set_option maxHeartbeats 4000000 in
set_option maxRecDepth 100000 in
theorem tJ6_numberOfTrailingZeros_0f7a4_49 {l : Launch} {E : xE} {p1 : Int32} {Q : Int32 → xM → Prop} (M : xM) (a0 : Int32) (a1 : Int32) (h : wJ6_numberOfTrailingZeros_0f7a4_49 p1 Q M a0 a1) : Gx l E mJ6_numberOfTrailingZeros_0f7a4 (xRi Q) 49 M [some (.int a0), some (.int a1)] [] := by
  unfold wJ6_numberOfTrailingZeros_0f7a4_49 at h
  refine Gx_run (es := eJ6_numberOfTrailingZeros_0f7a4_49) (P := []) (M' := M) (L' := [some (.int a0), some (.int a1)]) (st' := [.int (16 : Int32), .int a0]) (pc' := 52) kJ6_numberOfTrailingZeros_0f7a4_49 rfl trivial rfl ?_
  refine Gx_icmp_le (off := 10) (tgt := 62) (by decide +kernel) (by decide) (fun z => ?_) (fun z => ?_)
  · have h := h.1 z
    refine Gx_mask [true, true] (L' := [some (.int a0), some (.int a1)]) rfl ?_
    exact tJ6_numberOfTrailingZeros_0f7a4_62  M a0 a1 h
  · have h := h.2 z
    refine Gx_run (es := eJ6_numberOfTrailingZeros_0f7a4_55) (P := []) (M' := M) (L' := [some (.int (a0.toUInt32 >>> ((4 : Int32).toUInt32 &&& Int32.toUInt32 31)).toInt32), some (.int (a1 + (4 : Int32)))]) (st' := []) (pc' := 62) kJ6_numberOfTrailingZeros_0f7a4_55 rfl trivial rfl ?_
    refine Gx_mask [true, true] (L' := [some (.int (a0.toUInt32 >>> ((4 : Int32).toUInt32 &&& Int32.toUInt32 31)).toInt32), some (.int (a1 + (4 : Int32)))]) rfl ?_
    exact tJ6_numberOfTrailingZeros_0f7a4_62  M (a0.toUInt32 >>> ((4 : Int32).toUInt32 &&& Int32.toUInt32 31)).toInt32 (a1 + (4 : Int32)) h
def wJ6_numberOfTrailingZeros_0f7a4_34 (p1 : Int32) (Q : Int32 → xM → Prop) (M : xM) (a0 : Int32) (a1 : Int32) : Prop :=
    (((a0 ≤ (256 : Int32)) → (wJ6_numberOfTrailingZeros_0f7a4_49 p1 Q M a0 a1)) ∧ ((¬ a0 ≤ (256 : Int32)) → (wJ6_numberOfTrailingZeros_0f7a4_49 p1 Q M (a0.toUInt32 >>> ((8 : Int32).toUInt32 &&& Int32.toUInt32 31)).toInt32 (a1 + (8 : Int32)))))
set_option maxHeartbeats 4000000 in
set_option maxRecDepth 100000 in
theorem tJ6_numberOfTrailingZeros_0f7a4_34 {l : Launch} {E : xE} {p1 : Int32} {Q : Int32 → xM → Prop} (M : xM) (a0 : Int32) (a1 : Int32) (h : wJ6_numberOfTrailingZeros_0f7a4_34 p1 Q M a0 a1) : Gx l E mJ6_numberOfTrailingZeros_0f7a4 (xRi Q) 34 M [some (.int a0), some (.int a1)] [] := by
  unfold wJ6_numberOfTrailingZeros_0f7a4_34 at h
  refine Gx_run (es := eJ6_numberOfTrailingZeros_0f7a4_34) (P := []) (M' := M) (L' := [some (.int a0), some (.int a1)]) (st' := [.int (256 : Int32), .int a0]) (pc' := 38) kJ6_numberOfTrailingZeros_0f7a4_34 rfl trivial rfl ?_
  refine Gx_icmp_le (off := 11) (tgt := 49) (by decide +kernel) (by decide) (fun z => ?_) (fun z => ?_)
  · have h := h.1 z
    refine Gx_mask [true, true] (L' := [some (.int a0), some (.int a1)]) rfl ?_
    exact tJ6_numberOfTrailingZeros_0f7a4_49  M a0 a1 h
  · have h := h.2 z
    refine Gx_run (es := eJ6_numberOfTrailingZeros_0f7a4_41) (P := []) (M' := M) (L' := [some (.int (a0.toUInt32 >>> ((8 : Int32).toUInt32 &&& Int32.toUInt32 31)).toInt32), some (.int (a1 + (8 : Int32)))]) (st' := []) (pc' := 49) kJ6_numberOfTrailingZeros_0f7a4_41 rfl trivial rfl ?_
    refine Gx_mask [true, true] (L' := [some (.int (a0.toUInt32 >>> ((8 : Int32).toUInt32 &&& Int32.toUInt32 31)).toInt32), some (.int (a1 + (8 : Int32)))]) rfl ?_
    exact tJ6_numberOfTrailingZeros_0f7a4_49  M (a0.toUInt32 >>> ((8 : Int32).toUInt32 &&& Int32.toUInt32 31)).toInt32 (a1 + (8 : Int32)) h
def wJ6_numberOfTrailingZeros_0f7a4 (M : xM) (p1 : Int32) (Q : Int32 → xM → Prop) : Prop :=
    (((0 < ((p1 ^^^ (-1 : Int32)) &&& (p1 - (1 : Int32)))) → ((((((p1 ^^^ (-1 : Int32)) &&& (p1 - (1 : Int32))) ≤ (65536 : Int32)) → (wJ6_numberOfTrailingZeros_0f7a4_34 p1 Q M ((p1 ^^^ (-1 : Int32)) &&& (p1 - (1 : Int32))) (1 : Int32))) ∧ ((¬ ((p1 ^^^ (-1 : Int32)) &&& (p1 - (1 : Int32))) ≤ (65536 : Int32)) → (wJ6_numberOfTrailingZeros_0f7a4_34 p1 Q M (((p1 ^^^ (-1 : Int32)) &&& (p1 - (1 : Int32))).toUInt32 >>> ((16 : Int32).toUInt32 &&& Int32.toUInt32 31)).toInt32 ((1 : Int32) + (16 : Int32))))))) ∧ ((¬ 0 < ((p1 ^^^ (-1 : Int32)) &&& (p1 - (1 : Int32)))) → (Q (((p1 ^^^ (-1 : Int32)) &&& (p1 - (1 : Int32))) &&& (32 : Int32)) M)))
set_option maxHeartbeats 4000000 in
set_option maxRecDepth 100000 in
theorem tJ6_numberOfTrailingZeros_0f7a4 {l : Launch} {E : xE} {M : xM} {p1 : Int32} {Q : Int32 → xM → Prop} (h : wJ6_numberOfTrailingZeros_0f7a4 M p1 Q) : Ct l E mJ6_numberOfTrailingZeros_0f7a4 [.int p1] M (xRi Q) := by
  refine Ct_of (by decide +kernel) rfl (Nat.le_of_ble_eq_true rfl) ?_
  unfold wJ6_numberOfTrailingZeros_0f7a4 at h
  show Gx l E mJ6_numberOfTrailingZeros_0f7a4 (xRi Q) 0 M [some (.int p1), none] []
  refine Gx_run (es := eJ6_numberOfTrailingZeros_0f7a4_0) (P := []) (M' := M) (L' := [some (.int ((p1 ^^^ (-1 : Int32)) &&& (p1 - (1 : Int32)))), none]) (st' := [.int ((p1 ^^^ (-1 : Int32)) &&& (p1 - (1 : Int32)))]) (pc' := 9) kJ6_numberOfTrailingZeros_0f7a4_0 rfl trivial rfl ?_
  refine Gx_if_gt (off := 8) (tgt := 17) (by decide +kernel) (by decide) (fun z => ?_) (fun z => ?_)
  · have h := h.1 z
    refine Gx_run (es := eJ6_numberOfTrailingZeros_0f7a4_17) (P := []) (M' := M) (L' := [some (.int ((p1 ^^^ (-1 : Int32)) &&& (p1 - (1 : Int32)))), some (.int (1 : Int32))]) (st' := [.int (65536 : Int32), .int ((p1 ^^^ (-1 : Int32)) &&& (p1 - (1 : Int32)))]) (pc' := 23) kJ6_numberOfTrailingZeros_0f7a4_17 rfl trivial rfl ?_
    refine Gx_icmp_le (off := 11) (tgt := 34) (by decide +kernel) (by decide) (fun z => ?_) (fun z => ?_)
    · have h := h.1 z
      refine Gx_mask [true, true] (L' := [some (.int ((p1 ^^^ (-1 : Int32)) &&& (p1 - (1 : Int32)))), some (.int (1 : Int32))]) rfl ?_
      exact tJ6_numberOfTrailingZeros_0f7a4_34  M ((p1 ^^^ (-1 : Int32)) &&& (p1 - (1 : Int32))) (1 : Int32) h
    · have h := h.2 z
      refine Gx_run (es := eJ6_numberOfTrailingZeros_0f7a4_26) (P := []) (M' := M) (L' := [some (.int (((p1 ^^^ (-1 : Int32)) &&& (p1 - (1 : Int32))).toUInt32 >>> ((16 : Int32).toUInt32 &&& Int32.toUInt32 31)).toInt32), some (.int ((1 : Int32) + (16 : Int32)))]) (st' := []) (pc' := 34) kJ6_numberOfTrailingZeros_0f7a4_26 rfl trivial rfl ?_
      refine Gx_mask [true, true] (L' := [some (.int (((p1 ^^^ (-1 : Int32)) &&& (p1 - (1 : Int32))).toUInt32 >>> ((16 : Int32).toUInt32 &&& Int32.toUInt32 31)).toInt32), some (.int ((1 : Int32) + (16 : Int32)))]) rfl ?_
      exact tJ6_numberOfTrailingZeros_0f7a4_34  M (((p1 ^^^ (-1 : Int32)) &&& (p1 - (1 : Int32))).toUInt32 >>> ((16 : Int32).toUInt32 &&& Int32.toUInt32 31)).toInt32 ((1 : Int32) + (16 : Int32)) h
  · have h := h.2 z
    refine Gx_run (es := eJ6_numberOfTrailingZeros_0f7a4_12) (P := []) (M' := M) (L' := [some (.int ((p1 ^^^ (-1 : Int32)) &&& (p1 - (1 : Int32)))), none]) (st' := [.int (((p1 ^^^ (-1 : Int32)) &&& (p1 - (1 : Int32))) &&& (32 : Int32))]) (pc' := 16) kJ6_numberOfTrailingZeros_0f7a4_12 rfl trivial rfl ?_
    exact Gx_iret (by decide +kernel) rfl rfl ⟨_, rfl, h⟩
def eJ7_fill_53178_0 : List xI := [(.iconst 0, 1, 0, 0, (0)), (.istore_n 2, 1, 0, 0, 0), (.aload_n 0, 1, 0, 0, 0), (.arraylength, 1, 0, 0, 0), (.istore_n 3, 1, 0, 0, 0)]
theorem kJ7_fill_53178_0 : xcode (xmb mJ7_fill_53178) (xmo mJ7_fill_53178) 0 eJ7_fill_53178_0 = true := by decide +kernel
def eJ7_fill_53178_5 : List xI := [(.iload_n 2, 1, 0, 0, 0), (.iload_n 3, 1, 0, 0, 0)]
theorem kJ7_fill_53178_5 : xcode (xmb mJ7_fill_53178) (xmo mJ7_fill_53178) 5 eJ7_fill_53178_5 = true := by decide +kernel
def eJ7_fill_53178_10 : List xI := [(.aload_n 0, 1, 0, 0, 0), (.iload_n 2, 1, 0, 0, 0), (.iload_n 1, 1, 0, 0, 0), (.iastore, 1, 0, 0, 0), (.iinc 2 1, 3, 0, 0, (1))]
theorem kJ7_fill_53178_10 : xcode (xmb mJ7_fill_53178) (xmo mJ7_fill_53178) 10 eJ7_fill_53178_10 = true := by decide +kernel
def lJ7_fill_53178_5 (p1 : Nat) (p2 : Int32) (Q : xM → Prop) : Nat → xM → Int32 → Prop
  | 0 => fun _ _ => False
  | n + 1 => let k5 := lJ7_fill_53178_5 p1 p2 Q n; fun M a2 =>
    ((((nI (xln p1)) ≤ a2) → (Q M)) ∧ ((¬ (nI (xln p1)) ≤ a2) → ((vp_in a2 (xln p1)) ∧ k5 (xup M p1 a2.toNatClampNeg p2) (a2 + (1 : Int32)))))
set_option maxHeartbeats 4000000 in
set_option maxRecDepth 100000 in
theorem tJ7_fill_53178_5 {l : Launch} {E : xE} {p1 : Nat} {p2 : Int32} {Q : xM → Prop} (h_p1 : xRow p1) (n : Nat) : ∀ (M : xM) (a2 : Int32), lJ7_fill_53178_5 p1 p2 Q n M a2 → Gx l E mJ7_fill_53178 (xRv Q) 5 M [some (.ref p1), some (.int p2), some (.int a2), some (.int (nI (xln p1)))] [] := by
  induction n with
  | zero => intro M a2 h; exact h.elim
  | succ n hk5 =>
      intro M a2 h
      unfold lJ7_fill_53178_5 at h
      dsimp only at h
      refine Gx_run (es := eJ7_fill_53178_5) (P := []) (M' := M) (L' := [some (.ref p1), some (.int p2), some (.int a2), some (.int (nI (xln p1)))]) (st' := [.int (nI (xln p1)), .int a2]) (pc' := 7) kJ7_fill_53178_5 rfl trivial rfl ?_
      refine Gx_icmp_ge (off := 13) (tgt := 20) (by decide +kernel) (by decide) (fun z => ?_) (fun z => ?_)
      · have h := h.1 z
        exact Gx_vret (by decide +kernel) rfl ⟨rfl, h⟩
      · have h := h.2 z
        obtain ⟨g10_0, h⟩ := h
        refine Gx_run (es := eJ7_fill_53178_10) (P := [xkd p1 = 5, vp_in a2 (xln p1)]) (M' := (xup M p1 a2.toNatClampNeg p2)) (L' := [some (.ref p1), some (.int p2), some (.int (a2 + (1 : Int32))), some (.int (nI (xln p1)))]) (st' := []) (pc' := 17) kJ7_fill_53178_10 rfl ⟨h_p1, g10_0, trivial⟩ rfl ?_
        refine Gx_goto (off := -12) (tgt := 5) (by decide +kernel) (by decide) ?_
        refine Gx_mask [true, true, true, true] (L' := [some (.ref p1), some (.int p2), some (.int (a2 + (1 : Int32))), some (.int (nI (xln p1)))]) rfl ?_
        exact hk5 (xup M p1 a2.toNatClampNeg p2) (a2 + (1 : Int32)) h
def wJ7_fill_53178 (M : xM) (p1 : Nat) (p2 : Int32) (Q : xM → Prop) : Prop :=
    (∃ n : Nat, lJ7_fill_53178_5 p1 p2 Q n M (0 : Int32))
set_option maxHeartbeats 4000000 in
set_option maxRecDepth 100000 in
theorem tJ7_fill_53178 {l : Launch} {E : xE} {M : xM} {p1 : Nat} {p2 : Int32} {Q : xM → Prop} (h_p1 : xRow p1) (h : wJ7_fill_53178 M p1 p2 Q) : Ct l E mJ7_fill_53178 [.ref p1, .int p2] M (xRv Q) := by
  refine Ct_of (by decide +kernel) rfl (Nat.le_of_ble_eq_true rfl) ?_
  unfold wJ7_fill_53178 at h
  show Gx l E mJ7_fill_53178 (xRv Q) 0 M [some (.ref p1), some (.int p2), none, none] []
  refine Gx_run (es := eJ7_fill_53178_0) (P := [xkd p1 = 5]) (M' := M) (L' := [some (.ref p1), some (.int p2), some (.int (0 : Int32)), some (.int (nI (xln p1)))]) (st' := []) (pc' := 5) kJ7_fill_53178_0 rfl ⟨h_p1, trivial⟩ rfl ?_
  refine Gx_mask [true, true, true, true] (L' := [some (.ref p1), some (.int p2), some (.int (0 : Int32)), some (.int (nI (xln p1)))]) rfl ?_
  obtain ⟨n, h⟩ := h
  exact tJ7_fill_53178_5 h_p1  n M (0 : Int32) h
def eX0_askedFor_0 : List xI := [(.iconst 0, 1, 0, 0, (0)), (.istore_n 2, 1, 0, 0, 0), (.iconst 0, 1, 0, 0, (0)), (.istore_n 3, 1, 0, 0, 0)]
theorem kX0_askedFor_0 : xcode (xmb mX0_askedFor) (xmo mX0_askedFor) 0 eX0_askedFor_0 = true := by decide +kernel
def eX0_askedFor_4 : List xI := [(.iload_n 3, 1, 0, 0, 0), (.aload_n 0, 1, 0, 0, 0), (.getfield 28, 3, 0, 4, 0)]
theorem kX0_askedFor_4 : xcode (xmb mX0_askedFor) (xmo mX0_askedFor) 4 eX0_askedFor_4 = true := by decide +kernel
def eX0_askedFor_36 : List xI := [(.iload_n 2, 1, 0, 0, 0)]
theorem kX0_askedFor_36 : xcode (xmb mX0_askedFor) (xmo mX0_askedFor) 36 eX0_askedFor_36 = true := by decide +kernel
def eX0_askedFor_12 : List xI := [(.iload_n 2, 1, 0, 0, 0), (.aload_n 0, 1, 0, 0, 0), (.getfield 18, 3, 0, 1, 0), (.iload_n 3, 1, 0, 0, 0), (.iaload, 1, 0, 0, 0), (.iload_n 1, 1, 0, 0, 0)]
theorem kX0_askedFor_12 : xcode (xmb mX0_askedFor) (xmo mX0_askedFor) 12 eX0_askedFor_12 = true := by decide +kernel
def eX0_askedFor_27 : List xI := [(.iconst 0, 1, 0, 0, (0))]
theorem kX0_askedFor_27 : xcode (xmb mX0_askedFor) (xmo mX0_askedFor) 27 eX0_askedFor_27 = true := by decide +kernel
def eX0_askedFor_28 : List xI := [(.iadd, 1, 0, 0, 0), (.istore_n 2, 1, 0, 0, 0), (.iinc 3 1, 3, 0, 0, (1))]
theorem kX0_askedFor_28 : xcode (xmb mX0_askedFor) (xmo mX0_askedFor) 28 eX0_askedFor_28 = true := by decide +kernel
def eX0_askedFor_23 : List xI := [(.iconst 1, 1, 0, 0, (1))]
theorem kX0_askedFor_23 : xcode (xmb mX0_askedFor) (xmo mX0_askedFor) 23 eX0_askedFor_23 = true := by decide +kernel
def wX0_askedFor_28 (c : Nat) (p1 : Int32) (Q : Int32 → xM → Prop) (k4 : xM → Int32 → Int32 → Prop) (M : xM) (a3 : Int32) (s0 : Int32) (s1 : Int32) : Prop :=
    k4 M (s1 + s0) (a3 + (1 : Int32))
set_option maxHeartbeats 4000000 in
set_option maxRecDepth 100000 in
theorem tX0_askedFor_28 {l : Launch} {E : xE} {c : Nat} {p1 : Int32} {Q : Int32 → xM → Prop} {k4 : xM → Int32 → Int32 → Prop} (h_c : xChk c) (hk4 : ∀ (M : xM) (a2 : Int32) (a3 : Int32), k4 M a2 a3 → Gx l E mX0_askedFor (xRi Q) 4 M [some (.ref c), some (.int p1), some (.int a2), some (.int a3)] []) (M : xM) (a3 : Int32) (s0 : Int32) (s1 : Int32) (h : wX0_askedFor_28 c p1 Q k4 M a3 s0 s1) : Gx l E mX0_askedFor (xRi Q) 28 M [some (.ref c), some (.int p1), none, some (.int a3)] [.int s0, .int s1] := by
  unfold wX0_askedFor_28 at h
  refine Gx_run (es := eX0_askedFor_28) (P := []) (M' := M) (L' := [some (.ref c), some (.int p1), some (.int (s1 + s0)), some (.int (a3 + (1 : Int32)))]) (st' := []) (pc' := 33) kX0_askedFor_28 rfl trivial rfl ?_
  refine Gx_goto (off := -29) (tgt := 4) (by decide +kernel) (by decide) ?_
  refine Gx_mask [true, true, true, true] (L' := [some (.ref c), some (.int p1), some (.int (s1 + s0)), some (.int (a3 + (1 : Int32)))]) rfl ?_
  exact hk4 M (s1 + s0) (a3 + (1 : Int32)) h
def lX0_askedFor_4 (c : Nat) (p1 : Int32) (Q : Int32 → xM → Prop) : Nat → xM → Int32 → Int32 → Prop
  | 0 => fun _ _ _ => False
  | n + 1 => let k4 := lX0_askedFor_4 c p1 Q n; fun M a2 a3 =>
    ((((M c 4) ≤ a3) → (Q a2 M)) ∧ ((¬ (M c 4) ≤ a3) → ((vp_in a3 180) ∧ (((¬ (M (c + 8) a3.toNatClampNeg) = p1) → (wX0_askedFor_28 c p1 Q k4 M a3 (0 : Int32) a2)) ∧ (((M (c + 8) a3.toNatClampNeg) = p1) → (wX0_askedFor_28 c p1 Q k4 M a3 (1 : Int32) a2))))))
set_option maxHeartbeats 4000000 in
set_option maxRecDepth 100000 in
theorem tX0_askedFor_4 {l : Launch} {E : xE} {c : Nat} {p1 : Int32} {Q : Int32 → xM → Prop} (h_c : xChk c) (n : Nat) : ∀ (M : xM) (a2 : Int32) (a3 : Int32), lX0_askedFor_4 c p1 Q n M a2 a3 → Gx l E mX0_askedFor (xRi Q) 4 M [some (.ref c), some (.int p1), some (.int a2), some (.int a3)] [] := by
  induction n with
  | zero => intro M a2 a3 h; exact h.elim
  | succ n hk4 =>
      intro M a2 a3 h
      unfold lX0_askedFor_4 at h
      dsimp only at h
      refine Gx_run (es := eX0_askedFor_4) (P := [xkd c = 0]) (M' := M) (L' := [some (.ref c), some (.int p1), some (.int a2), some (.int a3)]) (st' := [.int (M c 4), .int a3]) (pc' := 9) kX0_askedFor_4 rfl ⟨(xChk_0 h_c), trivial⟩ rfl ?_
      refine Gx_icmp_ge (off := 27) (tgt := 36) (by decide +kernel) (by decide) (fun z => ?_) (fun z => ?_)
      · have h := h.1 z
        refine Gx_run (es := eX0_askedFor_36) (P := []) (M' := M) (L' := [some (.ref c), some (.int p1), some (.int a2), some (.int a3)]) (st' := [.int a2]) (pc' := 37) kX0_askedFor_36 rfl trivial rfl ?_
        exact Gx_iret (by decide +kernel) rfl rfl ⟨_, rfl, h⟩
      · have h := h.2 z
        obtain ⟨g12_0, h⟩ := h
        refine Gx_run (es := eX0_askedFor_12) (P := [xkd c = 0, xkd (c + 8) = 5, vp_in a3 (xln (c + 8))]) (M' := M) (L' := [some (.ref c), some (.int p1), some (.int a2), some (.int a3)]) (st' := [.int p1, .int (M (c + 8) a3.toNatClampNeg), .int a2]) (pc' := 20) kX0_askedFor_12 rfl ⟨(xChk_0 h_c), (xChk_8 h_c), (by rw [xChk_l8 h_c]; exact g12_0), trivial⟩ rfl ?_
        refine Gx_icmp_ne (off := 7) (tgt := 27) (by decide +kernel) (by decide) (fun z => ?_) (fun z => ?_)
        · have h := h.1 z
          refine Gx_run (es := eX0_askedFor_27) (P := []) (M' := M) (L' := [some (.ref c), some (.int p1), some (.int a2), some (.int a3)]) (st' := [.int (0 : Int32), .int a2]) (pc' := 28) kX0_askedFor_27 rfl trivial rfl ?_
          refine Gx_mask [true, true, false, true] (L' := [some (.ref c), some (.int p1), none, some (.int a3)]) rfl ?_
          exact tX0_askedFor_28 h_c  hk4 M a3 (0 : Int32) a2 h
        · have h := h.2 z
          refine Gx_run (es := eX0_askedFor_23) (P := []) (M' := M) (L' := [some (.ref c), some (.int p1), some (.int a2), some (.int a3)]) (st' := [.int (1 : Int32), .int a2]) (pc' := 24) kX0_askedFor_23 rfl trivial rfl ?_
          refine Gx_goto (off := 4) (tgt := 28) (by decide +kernel) (by decide) ?_
          refine Gx_mask [true, true, false, true] (L' := [some (.ref c), some (.int p1), none, some (.int a3)]) rfl ?_
          exact tX0_askedFor_28 h_c  hk4 M a3 (1 : Int32) a2 h
def wX0_askedFor (M : xM) (c : Nat) (p1 : Int32) (Q : Int32 → xM → Prop) : Prop :=
    (∃ n : Nat, lX0_askedFor_4 c p1 Q n M (0 : Int32) (0 : Int32))
set_option maxHeartbeats 4000000 in
set_option maxRecDepth 100000 in
theorem tX0_askedFor {l : Launch} {E : xE} {M : xM} {c : Nat} {p1 : Int32} {Q : Int32 → xM → Prop} (h_c : xChk c) (h : wX0_askedFor M c p1 Q) : Ct l E mX0_askedFor [.ref c, .int p1] M (xRi Q) := by
  refine Ct_of (by decide +kernel) rfl (Nat.le_of_ble_eq_true rfl) ?_
  unfold wX0_askedFor at h
  show Gx l E mX0_askedFor (xRi Q) 0 M [some (.ref c), some (.int p1), none, none] []
  refine Gx_run (es := eX0_askedFor_0) (P := []) (M' := M) (L' := [some (.ref c), some (.int p1), some (.int (0 : Int32)), some (.int (0 : Int32))]) (st' := []) (pc' := 4) kX0_askedFor_0 rfl trivial rfl ?_
  refine Gx_mask [true, true, true, true] (L' := [some (.ref c), some (.int p1), some (.int (0 : Int32)), some (.int (0 : Int32))]) rfl ?_
  obtain ⟨n, h⟩ := h
  exact tX0_askedFor_4 h_c  n M (0 : Int32) (0 : Int32) h
def eX0_asks_0 : List xI := [(.aload_n 0, 1, 0, 0, 0), (.getfield 35, 3, 0, 6, 0), (.iload_n 1, 1, 0, 0, 0), (.ishr, 1, 0, 0, 0), (.iconst 1, 1, 0, 0, (1)), (.iand, 1, 0, 0, 0)]
theorem kX0_asks_0 : xcode (xmb mX0_asks) (xmo mX0_asks) 0 eX0_asks_0 = true := by decide +kernel
def eX0_asks_21 : List xI := [(.iconst 0, 1, 0, 0, (0))]
theorem kX0_asks_21 : xcode (xmb mX0_asks) (xmo mX0_asks) 21 eX0_asks_21 = true := by decide +kernel
def eX0_asks_11 : List xI := [(.aload_n 0, 1, 0, 0, 0), (.getfield 28, 3, 0, 4, 0), (.sipush 180, 3, 0, 0, (180))]
theorem kX0_asks_11 : xcode (xmb mX0_asks) (xmo mX0_asks) 11 eX0_asks_11 = true := by decide +kernel
def eX0_asks_23 : List xI := [(.aload_n 0, 1, 0, 0, 0), (.getfield 18, 3, 0, 1, 0), (.aload_n 0, 1, 0, 0, 0), (.getfield 28, 3, 0, 4, 0), (.iload_n 1, 1, 0, 0, 0), (.iastore, 1, 0, 0, 0), (.aload_n 0, 1, 0, 0, 0), (.getfield 22, 3, 0, 2, 0), (.aload_n 0, 1, 0, 0, 0), (.getfield 28, 3, 0, 4, 0), (.iload_n 2, 1, 0, 0, 0), (.iastore, 1, 0, 0, 0), (.aload_n 0, 1, 0, 0, 0), (.getfield 25, 3, 0, 3, 0), (.aload_n 0, 1, 0, 0, 0), (.getfield 28, 3, 0, 4, 0), (.iload_n 3, 1, 0, 0, 0), (.iastore, 1, 0, 0, 0), (.aload_n 0, 1, 0, 0, 0), (.dup, 1, 0, 0, 0), (.getfield 28, 3, 0, 4, 0), (.iconst 1, 1, 0, 0, (1)), (.iadd, 1, 0, 0, 0), (.putfield 28, 3, 0, 4, 0), (.iconst 1, 1, 0, 0, (1))]
theorem kX0_asks_23 : xcode (xmb mX0_asks) (xmo mX0_asks) 23 eX0_asks_23 = true := by decide +kernel
def wX0_asks_21 (c : Nat) (p1 : Int32) (p2 : Int32) (p3 : Int32) (Q : Int32 → xM → Prop) (M : xM) : Prop :=
    Q (0 : Int32) M
set_option maxHeartbeats 4000000 in
set_option maxRecDepth 100000 in
theorem tX0_asks_21 {l : Launch} {E : xE} {c : Nat} {p1 : Int32} {p2 : Int32} {p3 : Int32} {Q : Int32 → xM → Prop} (h_c : xChk c) (M : xM) (h : wX0_asks_21 c p1 p2 p3 Q M ) : Gx l E mX0_asks (xRi Q) 21 M [none, none, none, none] [] := by
  unfold wX0_asks_21 at h
  refine Gx_run (es := eX0_asks_21) (P := []) (M' := M) (L' := [none, none, none, none]) (st' := [.int (0 : Int32)]) (pc' := 22) kX0_asks_21 rfl trivial rfl ?_
  exact Gx_iret (by decide +kernel) rfl (by decide) ⟨_, rfl, h⟩
def wX0_asks (M : xM) (c : Nat) (p1 : Int32) (p2 : Int32) (p3 : Int32) (Q : Int32 → xM → Prop) : Prop :=
    (((¬ (((M c 6) >>> (p1 &&& 31)) &&& (1 : Int32)) = 0) → (wX0_asks_21 c p1 p2 p3 Q M)) ∧ (((((M c 6) >>> (p1 &&& 31)) &&& (1 : Int32)) = 0) → (((((M c 4) < (180 : Int32)) → ((vp_in (M c 4) 180) ∧ (vp_in ((xup M (c + 8) (M c 4).toNatClampNeg p1) c 4) 180) ∧ (vp_in ((xup (xup M (c + 8) (M c 4).toNatClampNeg p1) (c + 9) ((xup M (c + 8) (M c 4).toNatClampNeg p1) c 4).toNatClampNeg p2) c 4) 180) ∧ Q (1 : Int32) (xup (xup (xup (xup M (c + 8) (M c 4).toNatClampNeg p1) (c + 9) ((xup M (c + 8) (M c 4).toNatClampNeg p1) c 4).toNatClampNeg p2) (c + 10) ((xup (xup M (c + 8) (M c 4).toNatClampNeg p1) (c + 9) ((xup M (c + 8) (M c 4).toNatClampNeg p1) c 4).toNatClampNeg p2) c 4).toNatClampNeg p3) c 4 (((xup (xup (xup M (c + 8) (M c 4).toNatClampNeg p1) (c + 9) ((xup M (c + 8) (M c 4).toNatClampNeg p1) c 4).toNatClampNeg p2) (c + 10) ((xup (xup M (c + 8) (M c 4).toNatClampNeg p1) (c + 9) ((xup M (c + 8) (M c 4).toNatClampNeg p1) c 4).toNatClampNeg p2) c 4).toNatClampNeg p3) c 4) + (1 : Int32))))) ∧ ((¬ (M c 4) < (180 : Int32)) → (wX0_asks_21 c p1 p2 p3 Q M))))))
set_option maxHeartbeats 4000000 in
set_option maxRecDepth 100000 in
theorem tX0_asks {l : Launch} {E : xE} {M : xM} {c : Nat} {p1 : Int32} {p2 : Int32} {p3 : Int32} {Q : Int32 → xM → Prop} (h_c : xChk c) (h : wX0_asks M c p1 p2 p3 Q) : Ct l E mX0_asks [.ref c, .int p1, .int p2, .int p3] M (xRi Q) := by
  refine Ct_of (by decide +kernel) rfl (Nat.le_of_ble_eq_true rfl) ?_
  unfold wX0_asks at h
  show Gx l E mX0_asks (xRi Q) 0 M [some (.ref c), some (.int p1), some (.int p2), some (.int p3)] []
  refine Gx_run (es := eX0_asks_0) (P := [xkd c = 0]) (M' := M) (L' := [some (.ref c), some (.int p1), some (.int p2), some (.int p3)]) (st' := [.int (((M c 6) >>> (p1 &&& 31)) &&& (1 : Int32))]) (pc' := 8) kX0_asks_0 rfl ⟨(xChk_0 h_c), trivial⟩ rfl ?_
  refine Gx_if_ne (off := 13) (tgt := 21) (by decide +kernel) (by decide) (fun z => ?_) (fun z => ?_)
  · have h := h.1 z
    refine Gx_mask [false, false, false, false] (L' := [none, none, none, none]) rfl ?_
    exact tX0_asks_21 h_c  M h
  · have h := h.2 z
    refine Gx_run (es := eX0_asks_11) (P := [xkd c = 0]) (M' := M) (L' := [some (.ref c), some (.int p1), some (.int p2), some (.int p3)]) (st' := [.int (180 : Int32), .int (M c 4)]) (pc' := 18) kX0_asks_11 rfl ⟨(xChk_0 h_c), trivial⟩ rfl ?_
    refine Gx_icmp_lt (off := 5) (tgt := 23) (by decide +kernel) (by decide) (fun z => ?_) (fun z => ?_)
    · have h := h.1 z
      obtain ⟨g23_0, g23_1, g23_2, h⟩ := h
      refine Gx_run (es := eX0_asks_23) (P := [xkd c = 0, xkd c = 0, xkd (c + 8) = 5, vp_in (M c 4) (xln (c + 8)), xkd c = 0, xkd c = 0, xkd (c + 9) = 5, vp_in ((xup M (c + 8) (M c 4).toNatClampNeg p1) c 4) (xln (c + 9)), xkd c = 0, xkd c = 0, xkd (c + 10) = 5, vp_in ((xup (xup M (c + 8) (M c 4).toNatClampNeg p1) (c + 9) ((xup M (c + 8) (M c 4).toNatClampNeg p1) c 4).toNatClampNeg p2) c 4) (xln (c + 10)), xkd c = 0, xkd c = 0]) (M' := (xup (xup (xup (xup M (c + 8) (M c 4).toNatClampNeg p1) (c + 9) ((xup M (c + 8) (M c 4).toNatClampNeg p1) c 4).toNatClampNeg p2) (c + 10) ((xup (xup M (c + 8) (M c 4).toNatClampNeg p1) (c + 9) ((xup M (c + 8) (M c 4).toNatClampNeg p1) c 4).toNatClampNeg p2) c 4).toNatClampNeg p3) c 4 (((xup (xup (xup M (c + 8) (M c 4).toNatClampNeg p1) (c + 9) ((xup M (c + 8) (M c 4).toNatClampNeg p1) c 4).toNatClampNeg p2) (c + 10) ((xup (xup M (c + 8) (M c 4).toNatClampNeg p1) (c + 9) ((xup M (c + 8) (M c 4).toNatClampNeg p1) c 4).toNatClampNeg p2) c 4).toNatClampNeg p3) c 4) + (1 : Int32)))) (L' := [some (.ref c), some (.int p1), some (.int p2), some (.int p3)]) (st' := [.int (1 : Int32)]) (pc' := 64) kX0_asks_23 rfl ⟨(xChk_0 h_c), (xChk_0 h_c), (xChk_8 h_c), (by rw [xChk_l8 h_c]; exact g23_0), (xChk_0 h_c), (xChk_0 h_c), (xChk_9 h_c), (by rw [xChk_l9 h_c]; exact g23_1), (xChk_0 h_c), (xChk_0 h_c), (xChk_10 h_c), (by rw [xChk_l10 h_c]; exact g23_2), (xChk_0 h_c), (xChk_0 h_c), trivial⟩ rfl ?_
      exact Gx_iret (by decide +kernel) rfl (by decide) ⟨_, rfl, h⟩
    · have h := h.2 z
      refine Gx_mask [false, false, false, false] (L' := [none, none, none, none]) rfl ?_
      exact tX0_asks_21 h_c  M h
def eX0_faultOfPointer_0 : List xI := [(.aload_n 0, 1, 0, 0, 0), (.getfield 12, 3, 0, 0, 0), (.getfield 79, 3, 2, 3, 0), (.iconst 3, 1, 0, 0, (3)), (.iload_n 1, 1, 0, 0, 0), (.imul, 1, 0, 0, 0), (.iload_n 2, 1, 0, 0, 0), (.iadd, 1, 0, 0, 0), (.iaload, 1, 0, 0, 0), (.istore 4, 2, 0, 0, 0), (.iload 4, 2, 0, 0, 0), (.bipush (-9), 2, 0, 0, (-9))]
theorem kX0_faultOfPointer_0 : xcode (xmb mX0_faultOfPointer) (xmo mX0_faultOfPointer) 0 eX0_faultOfPointer_0 = true := by decide +kernel
def eX0_faultOfPointer_24 : List xI := [(.iload_n 2, 1, 0, 0, 0), (.getstatic 89, 3, 0, 0, 0), (.aload_n 0, 1, 0, 0, 0), (.getfield 12, 3, 0, 0, 0), (.getfield 72, 3, 2, 0, 0), (.iload_n 1, 1, 0, 0, 0), (.iaload, 1, 0, 0, 0), (.iaload, 1, 1, 0, 0)]
theorem kX0_faultOfPointer_24 : xcode (xmb mX0_faultOfPointer) (xmo mX0_faultOfPointer) 24 eX0_faultOfPointer_24 = true := by decide +kernel
def eX0_faultOfPointer_43 : List xI := [(.iload 4, 2, 0, 0, 0), (.bipush 24, 2, 0, 0, (24))]
theorem kX0_faultOfPointer_43 : xcode (xmb mX0_faultOfPointer) (xmo mX0_faultOfPointer) 43 eX0_faultOfPointer_43 = true := by decide +kernel
def eX0_faultOfPointer_52 : List xI := [(.iload_n 3, 1, 0, 0, 0), (.iload 4, 2, 0, 0, 0), (.ishr, 1, 0, 0, 0), (.iconst 1, 1, 0, 0, (1)), (.iand, 1, 0, 0, 0)]
theorem kX0_faultOfPointer_52 : xcode (xmb mX0_faultOfPointer) (xmo mX0_faultOfPointer) 52 eX0_faultOfPointer_52 = true := by decide +kernel
def eX0_faultOfPointer_65 : List xI := [(.iconst 0, 1, 0, 0, (0))]
theorem kX0_faultOfPointer_65 : xcode (xmb mX0_faultOfPointer) (xmo mX0_faultOfPointer) 65 eX0_faultOfPointer_65 = true := by decide +kernel
def eX0_faultOfPointer_61 : List xI := [(.iconst 4, 1, 0, 0, (4))]
theorem kX0_faultOfPointer_61 : xcode (xmb mX0_faultOfPointer) (xmo mX0_faultOfPointer) 61 eX0_faultOfPointer_61 = true := by decide +kernel
def eX0_faultOfPointer_50 : List xI := [(.iconst 3, 1, 0, 0, (3))]
theorem kX0_faultOfPointer_50 : xcode (xmb mX0_faultOfPointer) (xmo mX0_faultOfPointer) 50 eX0_faultOfPointer_50 = true := by decide +kernel
def eX0_faultOfPointer_41 : List xI := [(.iconst 2, 1, 0, 0, (2))]
theorem kX0_faultOfPointer_41 : xcode (xmb mX0_faultOfPointer) (xmo mX0_faultOfPointer) 41 eX0_faultOfPointer_41 = true := by decide +kernel
def eX0_faultOfPointer_22 : List xI := [(.iconst 0, 1, 0, 0, (0))]
theorem kX0_faultOfPointer_22 : xcode (xmb mX0_faultOfPointer) (xmo mX0_faultOfPointer) 22 eX0_faultOfPointer_22 = true := by decide +kernel
def wX0_faultOfPointer_66 (c : Nat) (p1 : Int32) (p2 : Int32) (p3 : Int32) (Q : Int32 → xM → Prop) (M : xM) (s0 : Int32) : Prop :=
    Q s0 M
set_option maxHeartbeats 4000000 in
set_option maxRecDepth 100000 in
theorem tX0_faultOfPointer_66 {l : Launch} {E : xE} {c : Nat} {p1 : Int32} {p2 : Int32} {p3 : Int32} {Q : Int32 → xM → Prop} (h_c : xChk c) (M : xM) (s0 : Int32) (h : wX0_faultOfPointer_66 c p1 p2 p3 Q M s0) : Gx l E mX0_faultOfPointer (xRi Q) 66 M [none, none, none, none, none] [.int s0] := by
  unfold wX0_faultOfPointer_66 at h
  exact Gx_iret (by decide +kernel) rfl rfl ⟨_, rfl, h⟩
def wX0_faultOfPointer (M : xM) (c : Nat) (p1 : Int32) (p2 : Int32) (p3 : Int32) (Q : Int32 → xM → Prop) : Prop :=
    (vp_in (((3 : Int32) * p1) + p2) 30) ∧ (((¬ (M (c + 5) (((3 : Int32) * p1) + p2).toNatClampNeg) = (-9 : Int32)) → ((vp_in p1 10) ∧ (vp_in (M (c + 2) p1.toNatClampNeg) 6) ∧ (((p2 < (xhold (M (c + 2) p1.toNatClampNeg).toNatClampNeg)) → (((((M (c + 5) (((3 : Int32) * p1) + p2).toNatClampNeg) < (24 : Int32)) → ((((((p3 >>> ((M (c + 5) (((3 : Int32) * p1) + p2).toNatClampNeg) &&& 31)) &&& (1 : Int32)) = 0) → (wX0_faultOfPointer_66 c p1 p2 p3 Q M (0 : Int32))) ∧ ((¬ ((p3 >>> ((M (c + 5) (((3 : Int32) * p1) + p2).toNatClampNeg) &&& 31)) &&& (1 : Int32)) = 0) → (wX0_faultOfPointer_66 c p1 p2 p3 Q M (4 : Int32)))))) ∧ ((¬ (M (c + 5) (((3 : Int32) * p1) + p2).toNatClampNeg) < (24 : Int32)) → (Q (3 : Int32) M))))) ∧ ((¬ p2 < (xhold (M (c + 2) p1.toNatClampNeg).toNatClampNeg)) → (Q (2 : Int32) M))))) ∧ (((M (c + 5) (((3 : Int32) * p1) + p2).toNatClampNeg) = (-9 : Int32)) → (Q (0 : Int32) M)))
set_option maxHeartbeats 4000000 in
set_option maxRecDepth 100000 in
theorem tX0_faultOfPointer {l : Launch} {E : xE} {M : xM} {c : Nat} {p1 : Int32} {p2 : Int32} {p3 : Int32} {Q : Int32 → xM → Prop} (h_c : xChk c) (h : wX0_faultOfPointer M c p1 p2 p3 Q) : Ct l E mX0_faultOfPointer [.ref c, .int p1, .int p2, .int p3] M (xRi Q) := by
  refine Ct_of (by decide +kernel) rfl (Nat.le_of_ble_eq_true rfl) ?_
  unfold wX0_faultOfPointer at h
  show Gx l E mX0_faultOfPointer (xRi Q) 0 M [some (.ref c), some (.int p1), some (.int p2), some (.int p3), none] []
  obtain ⟨g0_0, h⟩ := h
  refine Gx_run (es := eX0_faultOfPointer_0) (P := [xkd c = 0, xkd (c + 1) = 2, xkd (c + 5) = 5, vp_in (((3 : Int32) * p1) + p2) (xln (c + 5))]) (M' := M) (L' := [some (.ref c), some (.int p1), some (.int p2), some (.int p3), some (.int (M (c + 5) (((3 : Int32) * p1) + p2).toNatClampNeg))]) (st' := [.int (-9 : Int32), .int (M (c + 5) (((3 : Int32) * p1) + p2).toNatClampNeg)]) (pc' := 19) kX0_faultOfPointer_0 rfl ⟨(xChk_0 h_c), (xChk_1 h_c), (xChk_5 h_c), (by rw [xChk_l5 h_c]; exact g0_0), trivial⟩ rfl ?_
  refine Gx_icmp_ne (off := 5) (tgt := 24) (by decide +kernel) (by decide) (fun z => ?_) (fun z => ?_)
  · have h := h.1 z
    obtain ⟨g24_0, g24_1, h⟩ := h
    refine Gx_run (es := eX0_faultOfPointer_24) (P := [xkd c = 0, xkd (c + 1) = 2, xkd (c + 2) = 5, vp_in p1 (xln (c + 2)), 100 = 100, vp_in (M (c + 2) p1.toNatClampNeg) 6]) (M' := M) (L' := [some (.ref c), some (.int p1), some (.int p2), some (.int p3), some (.int (M (c + 5) (((3 : Int32) * p1) + p2).toNatClampNeg))]) (st' := [.int (xhold (M (c + 2) p1.toNatClampNeg).toNatClampNeg), .int p2]) (pc' := 38) kX0_faultOfPointer_24 rfl ⟨(xChk_0 h_c), (xChk_1 h_c), (xChk_2 h_c), (by rw [xChk_l2 h_c]; exact g24_0), rfl, g24_1, trivial⟩ rfl ?_
    refine Gx_icmp_lt (off := 5) (tgt := 43) (by decide +kernel) (by decide) (fun z => ?_) (fun z => ?_)
    · have h := h.1 z
      refine Gx_run (es := eX0_faultOfPointer_43) (P := []) (M' := M) (L' := [some (.ref c), some (.int p1), some (.int p2), some (.int p3), some (.int (M (c + 5) (((3 : Int32) * p1) + p2).toNatClampNeg))]) (st' := [.int (24 : Int32), .int (M (c + 5) (((3 : Int32) * p1) + p2).toNatClampNeg)]) (pc' := 47) kX0_faultOfPointer_43 rfl trivial rfl ?_
      refine Gx_icmp_lt (off := 5) (tgt := 52) (by decide +kernel) (by decide) (fun z => ?_) (fun z => ?_)
      · have h := h.1 z
        refine Gx_run (es := eX0_faultOfPointer_52) (P := []) (M' := M) (L' := [some (.ref c), some (.int p1), some (.int p2), some (.int p3), some (.int (M (c + 5) (((3 : Int32) * p1) + p2).toNatClampNeg))]) (st' := [.int ((p3 >>> ((M (c + 5) (((3 : Int32) * p1) + p2).toNatClampNeg) &&& 31)) &&& (1 : Int32))]) (pc' := 58) kX0_faultOfPointer_52 rfl trivial rfl ?_
        refine Gx_if_eq (off := 7) (tgt := 65) (by decide +kernel) (by decide) (fun z => ?_) (fun z => ?_)
        · have h := h.1 z
          refine Gx_run (es := eX0_faultOfPointer_65) (P := []) (M' := M) (L' := [some (.ref c), some (.int p1), some (.int p2), some (.int p3), some (.int (M (c + 5) (((3 : Int32) * p1) + p2).toNatClampNeg))]) (st' := [.int (0 : Int32)]) (pc' := 66) kX0_faultOfPointer_65 rfl trivial rfl ?_
          refine Gx_mask [false, false, false, false, false] (L' := [none, none, none, none, none]) rfl ?_
          exact tX0_faultOfPointer_66 h_c  M (0 : Int32) h
        · have h := h.2 z
          refine Gx_run (es := eX0_faultOfPointer_61) (P := []) (M' := M) (L' := [some (.ref c), some (.int p1), some (.int p2), some (.int p3), some (.int (M (c + 5) (((3 : Int32) * p1) + p2).toNatClampNeg))]) (st' := [.int (4 : Int32)]) (pc' := 62) kX0_faultOfPointer_61 rfl trivial rfl ?_
          refine Gx_goto (off := 4) (tgt := 66) (by decide +kernel) (by decide) ?_
          refine Gx_mask [false, false, false, false, false] (L' := [none, none, none, none, none]) rfl ?_
          exact tX0_faultOfPointer_66 h_c  M (4 : Int32) h
      · have h := h.2 z
        refine Gx_run (es := eX0_faultOfPointer_50) (P := []) (M' := M) (L' := [some (.ref c), some (.int p1), some (.int p2), some (.int p3), some (.int (M (c + 5) (((3 : Int32) * p1) + p2).toNatClampNeg))]) (st' := [.int (3 : Int32)]) (pc' := 51) kX0_faultOfPointer_50 rfl trivial rfl ?_
        exact Gx_iret (by decide +kernel) rfl rfl ⟨_, rfl, h⟩
    · have h := h.2 z
      refine Gx_run (es := eX0_faultOfPointer_41) (P := []) (M' := M) (L' := [some (.ref c), some (.int p1), some (.int p2), some (.int p3), some (.int (M (c + 5) (((3 : Int32) * p1) + p2).toNatClampNeg))]) (st' := [.int (2 : Int32)]) (pc' := 42) kX0_faultOfPointer_41 rfl trivial rfl ?_
      exact Gx_iret (by decide +kernel) rfl rfl ⟨_, rfl, h⟩
  · have h := h.2 z
    refine Gx_run (es := eX0_faultOfPointer_22) (P := []) (M' := M) (L' := [some (.ref c), some (.int p1), some (.int p2), some (.int p3), some (.int (M (c + 5) (((3 : Int32) * p1) + p2).toNatClampNeg))]) (st' := [.int (0 : Int32)]) (pc' := 23) kX0_faultOfPointer_22 rfl trivial rfl ?_
    exact Gx_iret (by decide +kernel) rfl rfl ⟨_, rfl, h⟩
def eX1_append_0 : List xI := [(.aload_n 0, 1, 0, 0, 0), (.getfield 15, 3, 1, 1, 0), (.bipush 96, 2, 0, 0, (96))]
theorem kX1_append_0 : xcode (xmb mX1_append) (xmo mX1_append) 0 eX1_append_0 = true := by decide +kernel
def eX1_append_29 : List xI := [(.aload_n 0, 1, 0, 0, 0), (.getfield 15, 3, 1, 1, 0)]
theorem kX1_append_29 : xcode (xmb mX1_append) (xmo mX1_append) 29 eX1_append_29 = true := by decide +kernel
def eX1_append_9 : List xI := [(.aload_n 0, 1, 0, 0, 0), (.getfield 9, 3, 1, 0, 0), (.aload_n 0, 1, 0, 0, 0), (.getfield 15, 3, 1, 1, 0), (.iload_n 1, 1, 0, 0, 0), (.iastore, 1, 0, 0, 0), (.aload_n 0, 1, 0, 0, 0), (.dup, 1, 0, 0, 0), (.getfield 15, 3, 1, 1, 0), (.iconst 1, 1, 0, 0, (1)), (.iadd, 1, 0, 0, 0), (.putfield 15, 3, 1, 1, 0)]
theorem kX1_append_9 : xcode (xmb mX1_append) (xmo mX1_append) 9 eX1_append_9 = true := by decide +kernel
def wX1_append_29 (p1 : Int32) (Q : Int32 → xM → Prop) (M : xM) : Prop :=
    Q (M 46 1) M
set_option maxHeartbeats 4000000 in
set_option maxRecDepth 100000 in
theorem tX1_append_29 {l : Launch} {E : xE} {p1 : Int32} {Q : Int32 → xM → Prop} (M : xM) (h : wX1_append_29 p1 Q M ) : Gx l E mX1_append (xRi Q) 29 M [some (.ref 46), none] [] := by
  unfold wX1_append_29 at h
  refine Gx_run (es := eX1_append_29) (P := [xkd 46 = 1]) (M' := M) (L' := [some (.ref 46), none]) (st' := [.int (M 46 1)]) (pc' := 33) kX1_append_29 rfl ⟨rfl, trivial⟩ rfl ?_
  exact Gx_iret (by decide +kernel) rfl rfl ⟨_, rfl, h⟩
def wX1_append (M : xM) (p1 : Int32) (Q : Int32 → xM → Prop) : Prop :=
    ((((96 : Int32) ≤ (M 46 1)) → (wX1_append_29 p1 Q M)) ∧ ((¬ (96 : Int32) ≤ (M 46 1)) → ((vp_in (M 46 1) 96) ∧ wX1_append_29 p1 Q (xup (xup M 47 (M 46 1).toNatClampNeg p1) 46 1 (((xup M 47 (M 46 1).toNatClampNeg p1) 46 1) + (1 : Int32))))))
set_option maxHeartbeats 4000000 in
set_option maxRecDepth 100000 in
theorem tX1_append {l : Launch} {E : xE} {M : xM} {p1 : Int32} {Q : Int32 → xM → Prop} (h : wX1_append M p1 Q) : Ct l E mX1_append [.ref 46, .int p1] M (xRi Q) := by
  refine Ct_of (by decide +kernel) rfl (Nat.le_of_ble_eq_true rfl) ?_
  unfold wX1_append at h
  show Gx l E mX1_append (xRi Q) 0 M [some (.ref 46), some (.int p1)] []
  refine Gx_run (es := eX1_append_0) (P := [xkd 46 = 1]) (M' := M) (L' := [some (.ref 46), some (.int p1)]) (st' := [.int (96 : Int32), .int (M 46 1)]) (pc' := 6) kX1_append_0 rfl ⟨rfl, trivial⟩ rfl ?_
  refine Gx_icmp_ge (off := 23) (tgt := 29) (by decide +kernel) (by decide) (fun z => ?_) (fun z => ?_)
  · have h := h.1 z
    refine Gx_mask [true, false] (L' := [some (.ref 46), none]) rfl ?_
    exact tX1_append_29  M h
  · have h := h.2 z
    obtain ⟨g9_0, h⟩ := h
    refine Gx_run (es := eX1_append_9) (P := [xkd 46 = 1, xkd 46 = 1, xkd 47 = 5, vp_in (M 46 1) (xln 47), xkd 46 = 1, xkd 46 = 1]) (M' := (xup (xup M 47 (M 46 1).toNatClampNeg p1) 46 1 (((xup M 47 (M 46 1).toNatClampNeg p1) 46 1) + (1 : Int32)))) (L' := [some (.ref 46), some (.int p1)]) (st' := []) (pc' := 29) kX1_append_9 rfl ⟨rfl, rfl, rfl, g9_0, rfl, rfl, trivial⟩ rfl ?_
    refine Gx_mask [true, false] (L' := [some (.ref 46), none]) rfl ?_
    exact tX1_append_29  (xup (xup M 47 (M 46 1).toNatClampNeg p1) 46 1 (((xup M 47 (M 46 1).toNatClampNeg p1) 46 1) + (1 : Int32))) h
def eX1_shapeOf_0 : List xI := [(.iload_n 0, 1, 0, 0, 0)]
theorem kX1_shapeOf_0 : xcode (xmb mX1_shapeOf) (xmo mX1_shapeOf) 0 eX1_shapeOf_0 = true := by decide +kernel
def eX1_shapeOf_111 : List xI := [(.ldc 72, 2, 1, 2, 0)]
theorem kX1_shapeOf_111 : xcode (xmb mX1_shapeOf) (xmo mX1_shapeOf) 111 eX1_shapeOf_111 = true := by decide +kernel
def eX1_shapeOf_114 : List xI := [(.ldc 74, 2, 1, 3, 0)]
theorem kX1_shapeOf_114 : xcode (xmb mX1_shapeOf) (xmo mX1_shapeOf) 114 eX1_shapeOf_114 = true := by decide +kernel
def eX1_shapeOf_108 : List xI := [(.ldc 70, 2, 1, 1, 0)]
theorem kX1_shapeOf_108 : xcode (xmb mX1_shapeOf) (xmo mX1_shapeOf) 108 eX1_shapeOf_108 = true := by decide +kernel
def eX1_shapeOf_117 : List xI := [(.ldc 76, 2, 1, 4, 0)]
theorem kX1_shapeOf_117 : xcode (xmb mX1_shapeOf) (xmo mX1_shapeOf) 117 eX1_shapeOf_117 = true := by decide +kernel
def eX1_shapeOf_120 : List xI := [(.ldc 78, 2, 1, 5, 0)]
theorem kX1_shapeOf_120 : xcode (xmb mX1_shapeOf) (xmo mX1_shapeOf) 120 eX1_shapeOf_120 = true := by decide +kernel
def eX1_shapeOf_123 : List xI := [(.ldc 80, 2, 1, 6, 0)]
theorem kX1_shapeOf_123 : xcode (xmb mX1_shapeOf) (xmo mX1_shapeOf) 123 eX1_shapeOf_123 = true := by decide +kernel
def wX1_shapeOf_111 (p1 : Int32) (Q : Nat → xM → Prop) (M : xM) : Prop :=
    Q 112 M
set_option maxHeartbeats 4000000 in
set_option maxRecDepth 100000 in
theorem tX1_shapeOf_111 {l : Launch} {E : xE} {p1 : Int32} {Q : Nat → xM → Prop} (M : xM) (h : wX1_shapeOf_111 p1 Q M ) : Gx l E mX1_shapeOf (xRa Q) 111 M [none] [] := by
  unfold wX1_shapeOf_111 at h
  refine Gx_run (es := eX1_shapeOf_111) (P := []) (M' := M) (L' := [none]) (st' := [.ref 112]) (pc' := 113) kX1_shapeOf_111 rfl trivial rfl ?_
  exact Gx_aret (by decide +kernel) rfl (by decide) ⟨_, rfl, h⟩
def wX1_shapeOf_117 (p1 : Int32) (Q : Nat → xM → Prop) (M : xM) : Prop :=
    Q 114 M
set_option maxHeartbeats 4000000 in
set_option maxRecDepth 100000 in
theorem tX1_shapeOf_117 {l : Launch} {E : xE} {p1 : Int32} {Q : Nat → xM → Prop} (M : xM) (h : wX1_shapeOf_117 p1 Q M ) : Gx l E mX1_shapeOf (xRa Q) 117 M [none] [] := by
  unfold wX1_shapeOf_117 at h
  refine Gx_run (es := eX1_shapeOf_117) (P := []) (M' := M) (L' := [none]) (st' := [.ref 114]) (pc' := 119) kX1_shapeOf_117 rfl trivial rfl ?_
  exact Gx_aret (by decide +kernel) rfl (by decide) ⟨_, rfl, h⟩
def wX1_shapeOf (M : xM) (p1 : Int32) (Q : Nat → xM → Prop) : Prop :=
    (((p1 = (98 : Int32)) → (wX1_shapeOf_111 p1 Q M)) ∧ ((¬ p1 = (98 : Int32)) → (((p1 = (101 : Int32)) → (Q 113 M)) ∧ ((¬ p1 = (101 : Int32)) → (((p1 = (105 : Int32)) → (Q 111 M)) ∧ ((¬ p1 = (105 : Int32)) → (((p1 = (109 : Int32)) → (wX1_shapeOf_117 p1 Q M)) ∧ ((¬ p1 = (109 : Int32)) → (((p1 = (112 : Int32)) → (wX1_shapeOf_111 p1 Q M)) ∧ ((¬ p1 = (112 : Int32)) → (((p1 = (117 : Int32)) → (Q 115 M)) ∧ ((¬ p1 = (117 : Int32)) → (((p1 = (120 : Int32)) → (wX1_shapeOf_117 p1 Q M)) ∧ ((¬ p1 = (120 : Int32)) → (Q 116 M)))))))))))))))
set_option maxHeartbeats 4000000 in
set_option maxRecDepth 100000 in
theorem tX1_shapeOf {l : Launch} {E : xE} {M : xM} {p1 : Int32} {Q : Nat → xM → Prop} (h : wX1_shapeOf M p1 Q) : Ct l E mX1_shapeOf [.int p1] M (xRa Q) := by
  refine Ct_of (by decide +kernel) rfl (Nat.le_of_ble_eq_true rfl) ?_
  unfold wX1_shapeOf at h
  show Gx l E mX1_shapeOf (xRa Q) 0 M [some (.int p1)] []
  refine Gx_run (es := eX1_shapeOf_0) (P := []) (M' := M) (L' := [some (.int p1)]) (st' := [.int p1]) (pc' := 1) kX1_shapeOf_0 rfl trivial rfl ?_
  by_cases z98 : p1 = (98 : Int32)
  · have h := h.1 z98
    refine Gx_tabAt (dflt := 122) (lo := 98) (hi := 120) (offs := #[110, 122, 122, 113, 122, 122, 122, 107, 122, 122, 122, 116, 122, 122, 110, 122, 122, 122, 122, 119, 122, 122, 116]) (len := 107) z98 (by decide +kernel) (by decide) (by decide) (off := 110) (tgt := 111) rfl (by decide) ?_
    refine Gx_mask [false] (L' := [none]) rfl ?_
    exact tX1_shapeOf_111  M h
  replace h := h.2 z98
  by_cases z101 : p1 = (101 : Int32)
  · have h := h.1 z101
    refine Gx_tabAt (dflt := 122) (lo := 98) (hi := 120) (offs := #[110, 122, 122, 113, 122, 122, 122, 107, 122, 122, 122, 116, 122, 122, 110, 122, 122, 122, 122, 119, 122, 122, 116]) (len := 107) z101 (by decide +kernel) (by decide) (by decide) (off := 113) (tgt := 114) rfl (by decide) ?_
    refine Gx_run (es := eX1_shapeOf_114) (P := []) (M' := M) (L' := [some (.int p1)]) (st' := [.ref 113]) (pc' := 116) kX1_shapeOf_114 rfl trivial rfl ?_
    exact Gx_aret (by decide +kernel) rfl (by decide) ⟨_, rfl, h⟩
  replace h := h.2 z101
  by_cases z105 : p1 = (105 : Int32)
  · have h := h.1 z105
    refine Gx_tabAt (dflt := 122) (lo := 98) (hi := 120) (offs := #[110, 122, 122, 113, 122, 122, 122, 107, 122, 122, 122, 116, 122, 122, 110, 122, 122, 122, 122, 119, 122, 122, 116]) (len := 107) z105 (by decide +kernel) (by decide) (by decide) (off := 107) (tgt := 108) rfl (by decide) ?_
    refine Gx_run (es := eX1_shapeOf_108) (P := []) (M' := M) (L' := [some (.int p1)]) (st' := [.ref 111]) (pc' := 110) kX1_shapeOf_108 rfl trivial rfl ?_
    exact Gx_aret (by decide +kernel) rfl (by decide) ⟨_, rfl, h⟩
  replace h := h.2 z105
  by_cases z109 : p1 = (109 : Int32)
  · have h := h.1 z109
    refine Gx_tabAt (dflt := 122) (lo := 98) (hi := 120) (offs := #[110, 122, 122, 113, 122, 122, 122, 107, 122, 122, 122, 116, 122, 122, 110, 122, 122, 122, 122, 119, 122, 122, 116]) (len := 107) z109 (by decide +kernel) (by decide) (by decide) (off := 116) (tgt := 117) rfl (by decide) ?_
    refine Gx_mask [false] (L' := [none]) rfl ?_
    exact tX1_shapeOf_117  M h
  replace h := h.2 z109
  by_cases z112 : p1 = (112 : Int32)
  · have h := h.1 z112
    refine Gx_tabAt (dflt := 122) (lo := 98) (hi := 120) (offs := #[110, 122, 122, 113, 122, 122, 122, 107, 122, 122, 122, 116, 122, 122, 110, 122, 122, 122, 122, 119, 122, 122, 116]) (len := 107) z112 (by decide +kernel) (by decide) (by decide) (off := 110) (tgt := 111) rfl (by decide) ?_
    refine Gx_mask [false] (L' := [none]) rfl ?_
    exact tX1_shapeOf_111  M h
  replace h := h.2 z112
  by_cases z117 : p1 = (117 : Int32)
  · have h := h.1 z117
    refine Gx_tabAt (dflt := 122) (lo := 98) (hi := 120) (offs := #[110, 122, 122, 113, 122, 122, 122, 107, 122, 122, 122, 116, 122, 122, 110, 122, 122, 122, 122, 119, 122, 122, 116]) (len := 107) z117 (by decide +kernel) (by decide) (by decide) (off := 119) (tgt := 120) rfl (by decide) ?_
    refine Gx_run (es := eX1_shapeOf_120) (P := []) (M' := M) (L' := [some (.int p1)]) (st' := [.ref 115]) (pc' := 122) kX1_shapeOf_120 rfl trivial rfl ?_
    exact Gx_aret (by decide +kernel) rfl (by decide) ⟨_, rfl, h⟩
  replace h := h.2 z117
  by_cases z120 : p1 = (120 : Int32)
  · have h := h.1 z120
    refine Gx_tabAt (dflt := 122) (lo := 98) (hi := 120) (offs := #[110, 122, 122, 113, 122, 122, 122, 107, 122, 122, 122, 116, 122, 122, 110, 122, 122, 122, 122, 119, 122, 122, 116]) (len := 107) z120 (by decide +kernel) (by decide) (by decide) (off := 116) (tgt := 117) rfl (by decide) ?_
    refine Gx_mask [false] (L' := [none]) rfl ?_
    exact tX1_shapeOf_117  M h
  replace h := h.2 z120
  suffices hk : Gx l E mX1_shapeOf _ 123 M [some (.int p1)] [] by
    by_cases z99 : p1 = (99 : Int32)
    · exact Gx_tabAt (dflt := 122) (lo := 98) (hi := 120) (offs := #[110, 122, 122, 113, 122, 122, 122, 107, 122, 122, 122, 116, 122, 122, 110, 122, 122, 122, 122, 119, 122, 122, 116]) (len := 107) z99 (by decide +kernel) (by decide) (by decide) (off := 122) (tgt := 123) rfl (by decide) hk
    by_cases z100 : p1 = (100 : Int32)
    · exact Gx_tabAt (dflt := 122) (lo := 98) (hi := 120) (offs := #[110, 122, 122, 113, 122, 122, 122, 107, 122, 122, 122, 116, 122, 122, 110, 122, 122, 122, 122, 119, 122, 122, 116]) (len := 107) z100 (by decide +kernel) (by decide) (by decide) (off := 122) (tgt := 123) rfl (by decide) hk
    by_cases z102 : p1 = (102 : Int32)
    · exact Gx_tabAt (dflt := 122) (lo := 98) (hi := 120) (offs := #[110, 122, 122, 113, 122, 122, 122, 107, 122, 122, 122, 116, 122, 122, 110, 122, 122, 122, 122, 119, 122, 122, 116]) (len := 107) z102 (by decide +kernel) (by decide) (by decide) (off := 122) (tgt := 123) rfl (by decide) hk
    by_cases z103 : p1 = (103 : Int32)
    · exact Gx_tabAt (dflt := 122) (lo := 98) (hi := 120) (offs := #[110, 122, 122, 113, 122, 122, 122, 107, 122, 122, 122, 116, 122, 122, 110, 122, 122, 122, 122, 119, 122, 122, 116]) (len := 107) z103 (by decide +kernel) (by decide) (by decide) (off := 122) (tgt := 123) rfl (by decide) hk
    by_cases z104 : p1 = (104 : Int32)
    · exact Gx_tabAt (dflt := 122) (lo := 98) (hi := 120) (offs := #[110, 122, 122, 113, 122, 122, 122, 107, 122, 122, 122, 116, 122, 122, 110, 122, 122, 122, 122, 119, 122, 122, 116]) (len := 107) z104 (by decide +kernel) (by decide) (by decide) (off := 122) (tgt := 123) rfl (by decide) hk
    by_cases z106 : p1 = (106 : Int32)
    · exact Gx_tabAt (dflt := 122) (lo := 98) (hi := 120) (offs := #[110, 122, 122, 113, 122, 122, 122, 107, 122, 122, 122, 116, 122, 122, 110, 122, 122, 122, 122, 119, 122, 122, 116]) (len := 107) z106 (by decide +kernel) (by decide) (by decide) (off := 122) (tgt := 123) rfl (by decide) hk
    by_cases z107 : p1 = (107 : Int32)
    · exact Gx_tabAt (dflt := 122) (lo := 98) (hi := 120) (offs := #[110, 122, 122, 113, 122, 122, 122, 107, 122, 122, 122, 116, 122, 122, 110, 122, 122, 122, 122, 119, 122, 122, 116]) (len := 107) z107 (by decide +kernel) (by decide) (by decide) (off := 122) (tgt := 123) rfl (by decide) hk
    by_cases z108 : p1 = (108 : Int32)
    · exact Gx_tabAt (dflt := 122) (lo := 98) (hi := 120) (offs := #[110, 122, 122, 113, 122, 122, 122, 107, 122, 122, 122, 116, 122, 122, 110, 122, 122, 122, 122, 119, 122, 122, 116]) (len := 107) z108 (by decide +kernel) (by decide) (by decide) (off := 122) (tgt := 123) rfl (by decide) hk
    by_cases z110 : p1 = (110 : Int32)
    · exact Gx_tabAt (dflt := 122) (lo := 98) (hi := 120) (offs := #[110, 122, 122, 113, 122, 122, 122, 107, 122, 122, 122, 116, 122, 122, 110, 122, 122, 122, 122, 119, 122, 122, 116]) (len := 107) z110 (by decide +kernel) (by decide) (by decide) (off := 122) (tgt := 123) rfl (by decide) hk
    by_cases z111 : p1 = (111 : Int32)
    · exact Gx_tabAt (dflt := 122) (lo := 98) (hi := 120) (offs := #[110, 122, 122, 113, 122, 122, 122, 107, 122, 122, 122, 116, 122, 122, 110, 122, 122, 122, 122, 119, 122, 122, 116]) (len := 107) z111 (by decide +kernel) (by decide) (by decide) (off := 122) (tgt := 123) rfl (by decide) hk
    by_cases z113 : p1 = (113 : Int32)
    · exact Gx_tabAt (dflt := 122) (lo := 98) (hi := 120) (offs := #[110, 122, 122, 113, 122, 122, 122, 107, 122, 122, 122, 116, 122, 122, 110, 122, 122, 122, 122, 119, 122, 122, 116]) (len := 107) z113 (by decide +kernel) (by decide) (by decide) (off := 122) (tgt := 123) rfl (by decide) hk
    by_cases z114 : p1 = (114 : Int32)
    · exact Gx_tabAt (dflt := 122) (lo := 98) (hi := 120) (offs := #[110, 122, 122, 113, 122, 122, 122, 107, 122, 122, 122, 116, 122, 122, 110, 122, 122, 122, 122, 119, 122, 122, 116]) (len := 107) z114 (by decide +kernel) (by decide) (by decide) (off := 122) (tgt := 123) rfl (by decide) hk
    by_cases z115 : p1 = (115 : Int32)
    · exact Gx_tabAt (dflt := 122) (lo := 98) (hi := 120) (offs := #[110, 122, 122, 113, 122, 122, 122, 107, 122, 122, 122, 116, 122, 122, 110, 122, 122, 122, 122, 119, 122, 122, 116]) (len := 107) z115 (by decide +kernel) (by decide) (by decide) (off := 122) (tgt := 123) rfl (by decide) hk
    by_cases z116 : p1 = (116 : Int32)
    · exact Gx_tabAt (dflt := 122) (lo := 98) (hi := 120) (offs := #[110, 122, 122, 113, 122, 122, 122, 107, 122, 122, 122, 116, 122, 122, 110, 122, 122, 122, 122, 119, 122, 122, 116]) (len := 107) z116 (by decide +kernel) (by decide) (by decide) (off := 122) (tgt := 123) rfl (by decide) hk
    by_cases z118 : p1 = (118 : Int32)
    · exact Gx_tabAt (dflt := 122) (lo := 98) (hi := 120) (offs := #[110, 122, 122, 113, 122, 122, 122, 107, 122, 122, 122, 116, 122, 122, 110, 122, 122, 122, 122, 119, 122, 122, 116]) (len := 107) z118 (by decide +kernel) (by decide) (by decide) (off := 122) (tgt := 123) rfl (by decide) hk
    by_cases z119 : p1 = (119 : Int32)
    · exact Gx_tabAt (dflt := 122) (lo := 98) (hi := 120) (offs := #[110, 122, 122, 113, 122, 122, 122, 107, 122, 122, 122, 116, 122, 122, 110, 122, 122, 122, 122, 119, 122, 122, 116]) (len := 107) z119 (by decide +kernel) (by decide) (by decide) (off := 122) (tgt := 123) rfl (by decide) hk
    refine Gx_tableOut (dflt := 122) (lo := 98) (hi := 120) (offs := #[110, 122, 122, 113, 122, 122, 122, 107, 122, 122, 122, 116, 122, 122, 110, 122, 122, 122, 122, 119, 122, 122, 116]) (len := 107) (tgt := 123) (by decide +kernel) ?_ (by decide) hk
    have n98 := lv_neT (a := 98) z98 (by decide)
    have n99 := lv_neT (a := 99) z99 (by decide)
    have n100 := lv_neT (a := 100) z100 (by decide)
    have n101 := lv_neT (a := 101) z101 (by decide)
    have n102 := lv_neT (a := 102) z102 (by decide)
    have n103 := lv_neT (a := 103) z103 (by decide)
    have n104 := lv_neT (a := 104) z104 (by decide)
    have n105 := lv_neT (a := 105) z105 (by decide)
    have n106 := lv_neT (a := 106) z106 (by decide)
    have n107 := lv_neT (a := 107) z107 (by decide)
    have n108 := lv_neT (a := 108) z108 (by decide)
    have n109 := lv_neT (a := 109) z109 (by decide)
    have n110 := lv_neT (a := 110) z110 (by decide)
    have n111 := lv_neT (a := 111) z111 (by decide)
    have n112 := lv_neT (a := 112) z112 (by decide)
    have n113 := lv_neT (a := 113) z113 (by decide)
    have n114 := lv_neT (a := 114) z114 (by decide)
    have n115 := lv_neT (a := 115) z115 (by decide)
    have n116 := lv_neT (a := 116) z116 (by decide)
    have n117 := lv_neT (a := 117) z117 (by decide)
    have n118 := lv_neT (a := 118) z118 (by decide)
    have n119 := lv_neT (a := 119) z119 (by decide)
    have n120 := lv_neT (a := 120) z120 (by decide)
    omega
  refine Gx_run (es := eX1_shapeOf_123) (P := []) (M' := M) (L' := [some (.int p1)]) (st' := [.ref 116]) (pc' := 125) kX1_shapeOf_123 rfl trivial rfl ?_
  exact Gx_aret (by decide +kernel) rfl (by decide) ⟨_, rfl, h⟩
