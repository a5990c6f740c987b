/-! walks: X4_damages, X4_entriesTo, X4_entryTo, X4_freeBlock, X4_image, X4_isBlock, X4_isInode, X4_isListedAhead, X4_kinds, X4_letter, X4_maps -/
def eX4_damages_0 : List xI := [(.aload_n 0, 1, 0, 0, 0), (.iconst 3, 1, 0, 0, (3))]
theorem kX4_damages_0 : xcode (xmb mX4_damages) (xmo mX4_damages) 0 eX4_damages_0 = true := by decide +kernel
def eX4_damages_32 : List xI := [(.aload_n 0, 1, 0, 0, 0), (.iconst 3, 1, 0, 0, (3))]
theorem kX4_damages_32 : xcode (xmb mX4_damages) (xmo mX4_damages) 32 eX4_damages_32 = true := by decide +kernel
def eX4_damages_37 : List xI := [(.istore_n 1, 1, 0, 0, 0), (.aload_n 0, 1, 0, 0, 0), (.bipush 10, 2, 0, 0, (10))]
theorem kX4_damages_37 : xcode (xmb mX4_damages) (xmo mX4_damages) 37 eX4_damages_37 = true := by decide +kernel
def eX4_damages_44 : List xI := [(.istore_n 2, 1, 0, 0, 0), (.aload_n 0, 1, 0, 0, 0), (.getfield 7, 3, 4, 1, 0), (.bipush 30, 2, 0, 0, (30)), (.iconst 3, 1, 0, 0, (3)), (.iload_n 2, 1, 0, 0, 0), (.imul, 1, 0, 0, 0), (.iadd, 1, 0, 0, 0), (.iload_n 1, 1, 0, 0, 0), (.iadd, 1, 0, 0, 0), (.aload_n 0, 1, 0, 0, 0), (.bipush 26, 2, 0, 0, (26))]
theorem kX4_damages_44 : xcode (xmb mX4_damages) (xmo mX4_damages) 44 eX4_damages_44 = true := by decide +kernel
def eX4_damages_63 : List xI := [(.iastore, 1, 0, 0, 0)]
theorem kX4_damages_63 : xcode (xmb mX4_damages) (xmo mX4_damages) 63 eX4_damages_63 = true := by decide +kernel
def eX4_damages_67 : List xI := [(.aload_n 0, 1, 0, 0, 0), (.bipush 6, 2, 0, 0, (6))]
theorem kX4_damages_67 : xcode (xmb mX4_damages) (xmo mX4_damages) 67 eX4_damages_67 = true := by decide +kernel
def eX4_damages_73 : List xI := [(.istore_n 1, 1, 0, 0, 0), (.aload_n 0, 1, 0, 0, 0), (.bipush 10, 2, 0, 0, (10))]
theorem kX4_damages_73 : xcode (xmb mX4_damages) (xmo mX4_damages) 73 eX4_damages_73 = true := by decide +kernel
def eX4_damages_80 : List xI := [(.istore_n 2, 1, 0, 0, 0), (.aload_n 0, 1, 0, 0, 0), (.bipush 26, 2, 0, 0, (26))]
theorem kX4_damages_80 : xcode (xmb mX4_damages) (xmo mX4_damages) 80 eX4_damages_80 = true := by decide +kernel
def eX4_damages_87 : List xI := [(.istore_n 3, 1, 0, 0, 0), (.aload_n 0, 1, 0, 0, 0), (.getfield 7, 3, 4, 1, 0), (.bipush 60, 2, 0, 0, (60)), (.bipush 6, 2, 0, 0, (6)), (.iload_n 2, 1, 0, 0, 0), (.imul, 1, 0, 0, 0), (.iadd, 1, 0, 0, 0), (.iload_n 1, 1, 0, 0, 0), (.iadd, 1, 0, 0, 0), (.bipush 26, 2, 0, 0, (26)), (.aload_n 0, 1, 0, 0, 0), (.bipush 10, 2, 0, 0, (10))]
theorem kX4_damages_87 : xcode (xmb mX4_damages) (xmo mX4_damages) 87 eX4_damages_87 = true := by decide +kernel
def eX4_damages_109 : List xI := [(.imul, 1, 0, 0, 0), (.iload_n 3, 1, 0, 0, 0), (.iadd, 1, 0, 0, 0), (.iastore, 1, 0, 0, 0)]
theorem kX4_damages_109 : xcode (xmb mX4_damages) (xmo mX4_damages) 109 eX4_damages_109 = true := by decide +kernel
def eX4_damages_116 : List xI := [(.aload_n 0, 1, 0, 0, 0), (.bipush 10, 2, 0, 0, (10))]
theorem kX4_damages_116 : xcode (xmb mX4_damages) (xmo mX4_damages) 116 eX4_damages_116 = true := by decide +kernel
def eX4_damages_122 : List xI := [(.istore_n 1, 1, 0, 0, 0), (.aload_n 0, 1, 0, 0, 0), (.getfield 7, 3, 4, 1, 0), (.iconst 0, 1, 0, 0, (0)), (.iload_n 1, 1, 0, 0, 0), (.iadd, 1, 0, 0, 0), (.aload_n 0, 1, 0, 0, 0), (.bipush 6, 2, 0, 0, (6))]
theorem kX4_damages_122 : xcode (xmb mX4_damages) (xmo mX4_damages) 122 eX4_damages_122 = true := by decide +kernel
def eX4_damages_136 : List xI := [(.iastore, 1, 0, 0, 0)]
theorem kX4_damages_136 : xcode (xmb mX4_damages) (xmo mX4_damages) 136 eX4_damages_136 = true := by decide +kernel
def wX4_damages_137 (Q : xM → Prop) (M : xM) : Prop :=
    Q M
set_option maxHeartbeats 4000000 in
set_option maxRecDepth 100000 in
theorem tX4_damages_137 {l : Launch} {E : xE} {Q : xM → Prop} (M : xM) (h : wX4_damages_137  Q M ) : Gx l E mX4_damages (xRv Q) 137 M [none, none, none, none] [] := by
  unfold wX4_damages_137 at h
  exact Gx_vret (by decide +kernel) rfl ⟨rfl, h⟩
def wX4_damages (M : xM) (Q : xM → Prop) : Prop :=
    wX4_drawn M (3 : Int32) (fun r2 M2 => (((r2 = (0 : Int32)) → (wX4_drawn M2 (3 : Int32) (fun r34 M34 => wX4_drawn M34 (10 : Int32) (fun r41 M41 => wX4_drawn M41 (26 : Int32) (fun r60 M60 => (vp_in (((30 : Int32) + ((3 : Int32) * r41)) + r34) 147) ∧ wX4_damages_137  Q (xup M60 51 (((30 : Int32) + ((3 : Int32) * r41)) + r34).toNatClampNeg r60)))))) ∧ ((¬ r2 = (0 : Int32)) → (((r2 = (1 : Int32)) → (wX4_drawn M2 (6 : Int32) (fun r70 M70 => wX4_drawn M70 (10 : Int32) (fun r77 M77 => wX4_drawn M77 (26 : Int32) (fun r84 M84 => wX4_drawn M84 (10 : Int32) (fun r106 M106 => (vp_in (((60 : Int32) + ((6 : Int32) * r77)) + r70) 147) ∧ wX4_damages_137  Q (xup M106 51 (((60 : Int32) + ((6 : Int32) * r77)) + r70).toNatClampNeg (((26 : Int32) * r106) + r84)))))))) ∧ ((¬ r2 = (1 : Int32)) → (wX4_drawn M2 (10 : Int32) (fun r119 M119 => wX4_drawn M119 (6 : Int32) (fun r133 M133 => (vp_in ((0 : Int32) + r119) 147) ∧ wX4_damages_137  Q (xup M133 51 ((0 : Int32) + r119).toNatClampNeg r133)))))))))
set_option maxHeartbeats 4000000 in
set_option maxRecDepth 100000 in
theorem tX4_damages {l : Launch} {E : xE} {M : xM} {Q : xM → Prop} (h : wX4_damages M  Q) : Ct l E mX4_damages [.ref 50] M (xRv Q) := by
  refine Ct_of (by decide +kernel) rfl (Nat.le_of_ble_eq_true rfl) ?_
  unfold wX4_damages at h
  show Gx l E mX4_damages (xRv Q) 0 M [some (.ref 50), none, none, none] []
  refine Gx_run (es := eX4_damages_0) (P := []) (M' := M) (L' := [some (.ref 50), none, none, none]) (st' := [.int (3 : Int32), .ref 50]) (pc' := 2) kX4_damages_0 rfl trivial rfl ?_
  refine Gx_callV (As := [.int (3 : Int32)]) (by decide +kernel) ml_4_250 okX4_drawn mvX4_drawn rfl (by decide) (Nat.le_of_ble_eq_true rfl) rfl rfl rfl (tX4_drawn h) (fun rr M2 qq => ?_)
  obtain ⟨r2, rfl, h⟩ := qq
  show Gx l E mX4_damages _ 5 M2 [some (.ref 50), none, none, none] [.int r2]
  by_cases z0 : r2 = (0 : Int32)
  · have h := h.1 z0
    refine Gx_lookAt (dflt := 111) (ps := #[(0, 27), (1, 62)]) (len := 27) z0 (by decide +kernel) (by decide) (off := 27) (tgt := 32) rfl (by decide) ?_
    refine Gx_run (es := eX4_damages_32) (P := []) (M' := M2) (L' := [some (.ref 50), none, none, none]) (st' := [.int (3 : Int32), .ref 50]) (pc' := 34) kX4_damages_32 rfl trivial rfl ?_
    refine Gx_callV (As := [.int (3 : Int32)]) (by decide +kernel) ml_4_250 okX4_drawn mvX4_drawn rfl (by decide) (Nat.le_of_ble_eq_true rfl) rfl rfl rfl (tX4_drawn h) (fun rr M34 qq => ?_)
    obtain ⟨r34, rfl, h⟩ := qq
    show Gx l E mX4_damages _ 37 M34 [some (.ref 50), none, none, none] [.int r34]
    refine Gx_run (es := eX4_damages_37) (P := []) (M' := M34) (L' := [some (.ref 50), some (.int r34), none, none]) (st' := [.int (10 : Int32), .ref 50]) (pc' := 41) kX4_damages_37 rfl trivial rfl ?_
    refine Gx_callV (As := [.int (10 : Int32)]) (by decide +kernel) ml_4_250 okX4_drawn mvX4_drawn rfl (by decide) (Nat.le_of_ble_eq_true rfl) rfl rfl rfl (tX4_drawn h) (fun rr M41 qq => ?_)
    obtain ⟨r41, rfl, h⟩ := qq
    show Gx l E mX4_damages _ 44 M41 [some (.ref 50), some (.int r34), none, none] [.int r41]
    refine Gx_run (es := eX4_damages_44) (P := [xkd 50 = 4]) (M' := M41) (L' := [some (.ref 50), some (.int r34), some (.int r41), none]) (st' := [.int (26 : Int32), .ref 50, .int (((30 : Int32) + ((3 : Int32) * r41)) + r34), .ref 51]) (pc' := 60) kX4_damages_44 rfl ⟨rfl, trivial⟩ rfl ?_
    refine Gx_callV (As := [.int (26 : Int32)]) (by decide +kernel) ml_4_250 okX4_drawn mvX4_drawn rfl (by decide) (Nat.le_of_ble_eq_true rfl) rfl rfl rfl (tX4_drawn h) (fun rr M60 qq => ?_)
    obtain ⟨r60, rfl, h⟩ := qq
    show Gx l E mX4_damages _ 63 M60 [some (.ref 50), some (.int r34), some (.int r41), none] [.int r60, .int (((30 : Int32) + ((3 : Int32) * r41)) + r34), .ref 51]
    obtain ⟨g63_0, h⟩ := h
    refine Gx_run (es := eX4_damages_63) (P := [xkd 51 = 5, vp_in (((30 : Int32) + ((3 : Int32) * r41)) + r34) (xln 51)]) (M' := (xup M60 51 (((30 : Int32) + ((3 : Int32) * r41)) + r34).toNatClampNeg r60)) (L' := [some (.ref 50), some (.int r34), some (.int r41), none]) (st' := []) (pc' := 64) kX4_damages_63 rfl ⟨rfl, g63_0, trivial⟩ rfl ?_
    refine Gx_goto (off := 73) (tgt := 137) (by decide +kernel) (by decide) ?_
    refine Gx_mask [false, false, false, false] (L' := [none, none, none, none]) rfl ?_
    exact tX4_damages_137  (xup M60 51 (((30 : Int32) + ((3 : Int32) * r41)) + r34).toNatClampNeg r60) h
  replace h := h.2 z0
  by_cases z1 : r2 = (1 : Int32)
  · have h := h.1 z1
    refine Gx_lookAt (dflt := 111) (ps := #[(0, 27), (1, 62)]) (len := 27) z1 (by decide +kernel) (by decide) (off := 62) (tgt := 67) rfl (by decide) ?_
    refine Gx_run (es := eX4_damages_67) (P := []) (M' := M2) (L' := [some (.ref 50), none, none, none]) (st' := [.int (6 : Int32), .ref 50]) (pc' := 70) kX4_damages_67 rfl trivial rfl ?_
    refine Gx_callV (As := [.int (6 : Int32)]) (by decide +kernel) ml_4_250 okX4_drawn mvX4_drawn rfl (by decide) (Nat.le_of_ble_eq_true rfl) rfl rfl rfl (tX4_drawn h) (fun rr M70 qq => ?_)
    obtain ⟨r70, rfl, h⟩ := qq
    show Gx l E mX4_damages _ 73 M70 [some (.ref 50), none, none, none] [.int r70]
    refine Gx_run (es := eX4_damages_73) (P := []) (M' := M70) (L' := [some (.ref 50), some (.int r70), none, none]) (st' := [.int (10 : Int32), .ref 50]) (pc' := 77) kX4_damages_73 rfl trivial rfl ?_
    refine Gx_callV (As := [.int (10 : Int32)]) (by decide +kernel) ml_4_250 okX4_drawn mvX4_drawn rfl (by decide) (Nat.le_of_ble_eq_true rfl) rfl rfl rfl (tX4_drawn h) (fun rr M77 qq => ?_)
    obtain ⟨r77, rfl, h⟩ := qq
    show Gx l E mX4_damages _ 80 M77 [some (.ref 50), some (.int r70), none, none] [.int r77]
    refine Gx_run (es := eX4_damages_80) (P := []) (M' := M77) (L' := [some (.ref 50), some (.int r70), some (.int r77), none]) (st' := [.int (26 : Int32), .ref 50]) (pc' := 84) kX4_damages_80 rfl trivial rfl ?_
    refine Gx_callV (As := [.int (26 : Int32)]) (by decide +kernel) ml_4_250 okX4_drawn mvX4_drawn rfl (by decide) (Nat.le_of_ble_eq_true rfl) rfl rfl rfl (tX4_drawn h) (fun rr M84 qq => ?_)
    obtain ⟨r84, rfl, h⟩ := qq
    show Gx l E mX4_damages _ 87 M84 [some (.ref 50), some (.int r70), some (.int r77), none] [.int r84]
    refine Gx_run (es := eX4_damages_87) (P := [xkd 50 = 4]) (M' := M84) (L' := [some (.ref 50), some (.int r70), some (.int r77), some (.int r84)]) (st' := [.int (10 : Int32), .ref 50, .int (26 : Int32), .int (((60 : Int32) + ((6 : Int32) * r77)) + r70), .ref 51]) (pc' := 106) kX4_damages_87 rfl ⟨rfl, trivial⟩ rfl ?_
    refine Gx_callV (As := [.int (10 : Int32)]) (by decide +kernel) ml_4_250 okX4_drawn mvX4_drawn rfl (by decide) (Nat.le_of_ble_eq_true rfl) rfl rfl rfl (tX4_drawn h) (fun rr M106 qq => ?_)
    obtain ⟨r106, rfl, h⟩ := qq
    show Gx l E mX4_damages _ 109 M106 [some (.ref 50), some (.int r70), some (.int r77), some (.int r84)] [.int r106, .int (26 : Int32), .int (((60 : Int32) + ((6 : Int32) * r77)) + r70), .ref 51]
    obtain ⟨g109_0, h⟩ := h
    refine Gx_run (es := eX4_damages_109) (P := [xkd 51 = 5, vp_in (((60 : Int32) + ((6 : Int32) * r77)) + r70) (xln 51)]) (M' := (xup M106 51 (((60 : Int32) + ((6 : Int32) * r77)) + r70).toNatClampNeg (((26 : Int32) * r106) + r84))) (L' := [some (.ref 50), some (.int r70), some (.int r77), some (.int r84)]) (st' := []) (pc' := 113) kX4_damages_109 rfl ⟨rfl, g109_0, trivial⟩ rfl ?_
    refine Gx_goto (off := 24) (tgt := 137) (by decide +kernel) (by decide) ?_
    refine Gx_mask [false, false, false, false] (L' := [none, none, none, none]) rfl ?_
    exact tX4_damages_137  (xup M106 51 (((60 : Int32) + ((6 : Int32) * r77)) + r70).toNatClampNeg (((26 : Int32) * r106) + r84)) h
  replace h := h.2 z1
  refine Gx_lookup (dflt := 111) (ps := #[(0, 27), (1, 62)]) (len := 27) (by decide +kernel) (by decide) (off := 111) (tgt := 116) ?_ (by decide) ?_
  · show Op.lookupswitch.offset [(0, 27), (1, 62)] 111 _ = _
    rw [lv_osw z0 (by decide), lv_osw z1 (by decide)]
    rfl
  refine Gx_run (es := eX4_damages_116) (P := []) (M' := M2) (L' := [some (.ref 50), none, none, none]) (st' := [.int (10 : Int32), .ref 50]) (pc' := 119) kX4_damages_116 rfl trivial rfl ?_
  refine Gx_callV (As := [.int (10 : Int32)]) (by decide +kernel) ml_4_250 okX4_drawn mvX4_drawn rfl (by decide) (Nat.le_of_ble_eq_true rfl) rfl rfl rfl (tX4_drawn h) (fun rr M119 qq => ?_)
  obtain ⟨r119, rfl, h⟩ := qq
  show Gx l E mX4_damages _ 122 M119 [some (.ref 50), none, none, none] [.int r119]
  refine Gx_run (es := eX4_damages_122) (P := [xkd 50 = 4]) (M' := M119) (L' := [some (.ref 50), some (.int r119), none, none]) (st' := [.int (6 : Int32), .ref 50, .int ((0 : Int32) + r119), .ref 51]) (pc' := 133) kX4_damages_122 rfl ⟨rfl, trivial⟩ rfl ?_
  refine Gx_callV (As := [.int (6 : Int32)]) (by decide +kernel) ml_4_250 okX4_drawn mvX4_drawn rfl (by decide) (Nat.le_of_ble_eq_true rfl) rfl rfl rfl (tX4_drawn h) (fun rr M133 qq => ?_)
  obtain ⟨r133, rfl, h⟩ := qq
  show Gx l E mX4_damages _ 136 M133 [some (.ref 50), some (.int r119), none, none] [.int r133, .int ((0 : Int32) + r119), .ref 51]
  obtain ⟨g136_0, h⟩ := h
  refine Gx_run (es := eX4_damages_136) (P := [xkd 51 = 5, vp_in ((0 : Int32) + r119) (xln 51)]) (M' := (xup M133 51 ((0 : Int32) + r119).toNatClampNeg r133)) (L' := [some (.ref 50), some (.int r119), none, none]) (st' := []) (pc' := 137) kX4_damages_136 rfl ⟨rfl, g136_0, trivial⟩ rfl ?_
  refine Gx_mask [false, false, false, false] (L' := [none, none, none, none]) rfl ?_
  exact tX4_damages_137  (xup M133 51 ((0 : Int32) + r119).toNatClampNeg r133) h
def eX4_entriesTo_0 : List xI := [(.iconst 0, 1, 0, 0, (0)), (.istore_n 2, 1, 0, 0, 0), (.iconst 0, 1, 0, 0, (0)), (.istore_n 3, 1, 0, 0, 0)]
theorem kX4_entriesTo_0 : xcode (xmb mX4_entriesTo) (xmo mX4_entriesTo) 0 eX4_entriesTo_0 = true := by decide +kernel
def eX4_entriesTo_4 : List xI := [(.iload_n 3, 1, 0, 0, 0), (.bipush 60, 2, 0, 0, (60))]
theorem kX4_entriesTo_4 : xcode (xmb mX4_entriesTo) (xmo mX4_entriesTo) 4 eX4_entriesTo_4 = true := by decide +kernel
def eX4_entriesTo_33 : List xI := [(.iload_n 2, 1, 0, 0, 0)]
theorem kX4_entriesTo_33 : xcode (xmb mX4_entriesTo) (xmo mX4_entriesTo) 33 eX4_entriesTo_33 = true := by decide +kernel
def eX4_entriesTo_10 : List xI := [(.iload_n 2, 1, 0, 0, 0), (.aload_n 0, 1, 0, 0, 0), (.iload_n 3, 1, 0, 0, 0), (.iload_n 1, 1, 0, 0, 0)]
theorem kX4_entriesTo_10 : xcode (xmb mX4_entriesTo) (xmo mX4_entriesTo) 10 eX4_entriesTo_10 = true := by decide +kernel
def eX4_entriesTo_24 : List xI := [(.iconst 0, 1, 0, 0, (0))]
theorem kX4_entriesTo_24 : xcode (xmb mX4_entriesTo) (xmo mX4_entriesTo) 24 eX4_entriesTo_24 = true := by decide +kernel
def eX4_entriesTo_25 : List xI := [(.iadd, 1, 0, 0, 0), (.istore_n 2, 1, 0, 0, 0), (.iinc 3 1, 3, 0, 0, (1))]
theorem kX4_entriesTo_25 : xcode (xmb mX4_entriesTo) (xmo mX4_entriesTo) 25 eX4_entriesTo_25 = true := by decide +kernel
def eX4_entriesTo_20 : List xI := [(.iconst 1, 1, 0, 0, (1))]
theorem kX4_entriesTo_20 : xcode (xmb mX4_entriesTo) (xmo mX4_entriesTo) 20 eX4_entriesTo_20 = true := by decide +kernel
def wX4_entriesTo_25 (p1 : Int32) (Q : Int32 → xM → Prop) (k4 : xM → Int32 → Int32 → Prop) (M : xM) (a3 : Int32) (s0 : Int32) (s1 : Int32) : Prop :=
    k4 M (s1 + s0) (a3 + (1 : Int32))
set_option maxHeartbeats 4000000 in
set_option maxRecDepth 100000 in
theorem tX4_entriesTo_25 {l : Launch} {E : xE} {p1 : Int32} {Q : Int32 → xM → Prop} {k4 : xM → Int32 → Int32 → Prop} (hk4 : ∀ (M : xM) (a2 : Int32) (a3 : Int32), k4 M a2 a3 → Gx l E mX4_entriesTo (xRi Q) 4 M [some (.ref 50), some (.int p1), some (.int a2), some (.int a3)] []) (M : xM) (a3 : Int32) (s0 : Int32) (s1 : Int32) (h : wX4_entriesTo_25 p1 Q k4 M a3 s0 s1) : Gx l E mX4_entriesTo (xRi Q) 25 M [some (.ref 50), some (.int p1), none, some (.int a3)] [.int s0, .int s1] := by
  unfold wX4_entriesTo_25 at h
  refine Gx_run (es := eX4_entriesTo_25) (P := []) (M' := M) (L' := [some (.ref 50), some (.int p1), some (.int (s1 + s0)), some (.int (a3 + (1 : Int32)))]) (st' := []) (pc' := 30) kX4_entriesTo_25 rfl trivial rfl ?_
  refine Gx_goto (off := -26) (tgt := 4) (by decide +kernel) (by decide) ?_
  refine Gx_mask [true, true, true, true] (L' := [some (.ref 50), some (.int p1), some (.int (s1 + s0)), some (.int (a3 + (1 : Int32)))]) rfl ?_
  exact hk4 M (s1 + s0) (a3 + (1 : Int32)) h
def lX4_entriesTo_4 (p1 : Int32) (Q : Int32 → xM → Prop) : Nat → xM → Int32 → Int32 → Prop
  | 0 => fun _ _ _ => False
  | n + 1 => let k4 := lX4_entriesTo_4 p1 Q n; fun M a2 a3 =>
    ((((60 : Int32) ≤ a3) → (Q a2 M)) ∧ ((¬ (60 : Int32) ≤ a3) → (wX4_isEntryTo M a3 p1 (fun r14 M14 => (((r14 = 0) → (wX4_entriesTo_25 p1 Q k4 M14 a3 (0 : Int32) a2)) ∧ ((¬ r14 = 0) → (wX4_entriesTo_25 p1 Q k4 M14 a3 (1 : Int32) a2)))))))
set_option maxHeartbeats 4000000 in
set_option maxRecDepth 100000 in
theorem tX4_entriesTo_4 {l : Launch} {E : xE} {p1 : Int32} {Q : Int32 → xM → Prop} (n : Nat) : ∀ (M : xM) (a2 : Int32) (a3 : Int32), lX4_entriesTo_4 p1 Q n M a2 a3 → Gx l E mX4_entriesTo (xRi Q) 4 M [some (.ref 50), some (.int p1), some (.int a2), some (.int a3)] [] := by
  induction n with
  | zero => intro M a2 a3 h; exact h.elim
  | succ n hk4 =>
      intro M a2 a3 h
      unfold lX4_entriesTo_4 at h
      dsimp only at h
      refine Gx_run (es := eX4_entriesTo_4) (P := []) (M' := M) (L' := [some (.ref 50), some (.int p1), some (.int a2), some (.int a3)]) (st' := [.int (60 : Int32), .int a3]) (pc' := 7) kX4_entriesTo_4 rfl trivial rfl ?_
      refine Gx_icmp_ge (off := 26) (tgt := 33) (by decide +kernel) (by decide) (fun z => ?_) (fun z => ?_)
      · have h := h.1 z
        refine Gx_run (es := eX4_entriesTo_33) (P := []) (M' := M) (L' := [some (.ref 50), some (.int p1), some (.int a2), some (.int a3)]) (st' := [.int a2]) (pc' := 34) kX4_entriesTo_33 rfl trivial rfl ?_
        exact Gx_iret (by decide +kernel) rfl rfl ⟨_, rfl, h⟩
      · have h := h.2 z
        refine Gx_run (es := eX4_entriesTo_10) (P := []) (M' := M) (L' := [some (.ref 50), some (.int p1), some (.int a2), some (.int a3)]) (st' := [.int p1, .int a3, .ref 50, .int a2]) (pc' := 14) kX4_entriesTo_10 rfl trivial rfl ?_
        refine Gx_callV (As := [.int a3, .int p1]) (by decide +kernel) ml_4_47 okX4_isEntryTo mvX4_isEntryTo rfl (by decide) (Nat.le_of_ble_eq_true rfl) rfl rfl rfl (tX4_isEntryTo h) (fun rr M14 qq => ?_)
        obtain ⟨r14, rfl, h⟩ := qq
        show Gx l E mX4_entriesTo _ 17 M14 [some (.ref 50), some (.int p1), some (.int a2), some (.int a3)] [.int r14, .int a2]
        refine Gx_if_eq (off := 7) (tgt := 24) (by decide +kernel) (by decide) (fun z => ?_) (fun z => ?_)
        · have h := h.1 z
          refine Gx_run (es := eX4_entriesTo_24) (P := []) (M' := M14) (L' := [some (.ref 50), some (.int p1), some (.int a2), some (.int a3)]) (st' := [.int (0 : Int32), .int a2]) (pc' := 25) kX4_entriesTo_24 rfl trivial rfl ?_
          refine Gx_mask [true, true, false, true] (L' := [some (.ref 50), some (.int p1), none, some (.int a3)]) rfl ?_
          exact tX4_entriesTo_25  hk4 M14 a3 (0 : Int32) a2 h
        · have h := h.2 z
          refine Gx_run (es := eX4_entriesTo_20) (P := []) (M' := M14) (L' := [some (.ref 50), some (.int p1), some (.int a2), some (.int a3)]) (st' := [.int (1 : Int32), .int a2]) (pc' := 21) kX4_entriesTo_20 rfl trivial rfl ?_
          refine Gx_goto (off := 4) (tgt := 25) (by decide +kernel) (by decide) ?_
          refine Gx_mask [true, true, false, true] (L' := [some (.ref 50), some (.int p1), none, some (.int a3)]) rfl ?_
          exact tX4_entriesTo_25  hk4 M14 a3 (1 : Int32) a2 h
def wX4_entriesTo (M : xM) (p1 : Int32) (Q : Int32 → xM → Prop) : Prop :=
    (∃ n : Nat, lX4_entriesTo_4 p1 Q n M (0 : Int32) (0 : Int32))
set_option maxHeartbeats 4000000 in
set_option maxRecDepth 100000 in
theorem tX4_entriesTo {l : Launch} {E : xE} {M : xM} {p1 : Int32} {Q : Int32 → xM → Prop} (h : wX4_entriesTo M p1 Q) : Ct l E mX4_entriesTo [.ref 50, .int p1] M (xRi Q) := by
  refine Ct_of (by decide +kernel) rfl (Nat.le_of_ble_eq_true rfl) ?_
  unfold wX4_entriesTo at h
  show Gx l E mX4_entriesTo (xRi Q) 0 M [some (.ref 50), some (.int p1), none, none] []
  refine Gx_run (es := eX4_entriesTo_0) (P := []) (M' := M) (L' := [some (.ref 50), some (.int p1), some (.int (0 : Int32)), some (.int (0 : Int32))]) (st' := []) (pc' := 4) kX4_entriesTo_0 rfl trivial rfl ?_
  refine Gx_mask [true, true, true, true] (L' := [some (.ref 50), some (.int p1), some (.int (0 : Int32)), some (.int (0 : Int32))]) rfl ?_
  obtain ⟨n, h⟩ := h
  exact tX4_entriesTo_4  n M (0 : Int32) (0 : Int32) h
def eX4_entryTo_0 : List xI := [(.iconst 0, 1, 0, 0, (0)), (.istore_n 2, 1, 0, 0, 0)]
theorem kX4_entryTo_0 : xcode (xmb mX4_entryTo) (xmo mX4_entryTo) 0 eX4_entryTo_0 = true := by decide +kernel
def eX4_entryTo_2 : List xI := [(.iload_n 2, 1, 0, 0, 0), (.bipush 60, 2, 0, 0, (60))]
theorem kX4_entryTo_2 : xcode (xmb mX4_entryTo) (xmo mX4_entryTo) 2 eX4_entryTo_2 = true := by decide +kernel
def eX4_entryTo_25 : List xI := [(.iconst (-1), 1, 0, 0, (-1))]
theorem kX4_entryTo_25 : xcode (xmb mX4_entryTo) (xmo mX4_entryTo) 25 eX4_entryTo_25 = true := by decide +kernel
def eX4_entryTo_8 : List xI := [(.aload_n 0, 1, 0, 0, 0), (.iload_n 2, 1, 0, 0, 0), (.iload_n 1, 1, 0, 0, 0)]
theorem kX4_entryTo_8 : xcode (xmb mX4_entryTo) (xmo mX4_entryTo) 8 eX4_entryTo_8 = true := by decide +kernel
def eX4_entryTo_19 : List xI := [(.iinc 2 1, 3, 0, 0, (1))]
theorem kX4_entryTo_19 : xcode (xmb mX4_entryTo) (xmo mX4_entryTo) 19 eX4_entryTo_19 = true := by decide +kernel
def eX4_entryTo_17 : List xI := [(.iload_n 2, 1, 0, 0, 0)]
theorem kX4_entryTo_17 : xcode (xmb mX4_entryTo) (xmo mX4_entryTo) 17 eX4_entryTo_17 = true := by decide +kernel
def lX4_entryTo_2 (p1 : Int32) (Q : Int32 → xM → Prop) : Nat → xM → Int32 → Prop
  | 0 => fun _ _ => False
  | n + 1 => let k2 := lX4_entryTo_2 p1 Q n; fun M a2 =>
    ((((60 : Int32) ≤ a2) → (Q (-1 : Int32) M)) ∧ ((¬ (60 : Int32) ≤ a2) → (wX4_isEntryTo M a2 p1 (fun r11 M11 => (((r11 = 0) → (k2 M11 (a2 + (1 : Int32)))) ∧ ((¬ r11 = 0) → (Q a2 M11)))))))
set_option maxHeartbeats 4000000 in
set_option maxRecDepth 100000 in
theorem tX4_entryTo_2 {l : Launch} {E : xE} {p1 : Int32} {Q : Int32 → xM → Prop} (n : Nat) : ∀ (M : xM) (a2 : Int32), lX4_entryTo_2 p1 Q n M a2 → Gx l E mX4_entryTo (xRi Q) 2 M [some (.ref 50), some (.int p1), some (.int a2)] [] := by
  induction n with
  | zero => intro M a2 h; exact h.elim
  | succ n hk2 =>
      intro M a2 h
      unfold lX4_entryTo_2 at h
      dsimp only at h
      refine Gx_run (es := eX4_entryTo_2) (P := []) (M' := M) (L' := [some (.ref 50), some (.int p1), some (.int a2)]) (st' := [.int (60 : Int32), .int a2]) (pc' := 5) kX4_entryTo_2 rfl trivial rfl ?_
      refine Gx_icmp_ge (off := 20) (tgt := 25) (by decide +kernel) (by decide) (fun z => ?_) (fun z => ?_)
      · have h := h.1 z
        refine Gx_run (es := eX4_entryTo_25) (P := []) (M' := M) (L' := [some (.ref 50), some (.int p1), some (.int a2)]) (st' := [.int (-1 : Int32)]) (pc' := 26) kX4_entryTo_25 rfl trivial rfl ?_
        exact Gx_iret (by decide +kernel) rfl rfl ⟨_, rfl, h⟩
      · have h := h.2 z
        refine Gx_run (es := eX4_entryTo_8) (P := []) (M' := M) (L' := [some (.ref 50), some (.int p1), some (.int a2)]) (st' := [.int p1, .int a2, .ref 50]) (pc' := 11) kX4_entryTo_8 rfl trivial rfl ?_
        refine Gx_callV (As := [.int a2, .int p1]) (by decide +kernel) ml_4_47 okX4_isEntryTo mvX4_isEntryTo rfl (by decide) (Nat.le_of_ble_eq_true rfl) rfl rfl rfl (tX4_isEntryTo h) (fun rr M11 qq => ?_)
        obtain ⟨r11, rfl, h⟩ := qq
        show Gx l E mX4_entryTo _ 14 M11 [some (.ref 50), some (.int p1), some (.int a2)] [.int r11]
        refine Gx_if_eq (off := 5) (tgt := 19) (by decide +kernel) (by decide) (fun z => ?_) (fun z => ?_)
        · have h := h.1 z
          refine Gx_run (es := eX4_entryTo_19) (P := []) (M' := M11) (L' := [some (.ref 50), some (.int p1), some (.int (a2 + (1 : Int32)))]) (st' := []) (pc' := 22) kX4_entryTo_19 rfl trivial rfl ?_
          refine Gx_goto (off := -20) (tgt := 2) (by decide +kernel) (by decide) ?_
          refine Gx_mask [true, true, true] (L' := [some (.ref 50), some (.int p1), some (.int (a2 + (1 : Int32)))]) rfl ?_
          exact hk2 M11 (a2 + (1 : Int32)) h
        · have h := h.2 z
          refine Gx_run (es := eX4_entryTo_17) (P := []) (M' := M11) (L' := [some (.ref 50), some (.int p1), some (.int a2)]) (st' := [.int a2]) (pc' := 18) kX4_entryTo_17 rfl trivial rfl ?_
          exact Gx_iret (by decide +kernel) rfl rfl ⟨_, rfl, h⟩
def wX4_entryTo (M : xM) (p1 : Int32) (Q : Int32 → xM → Prop) : Prop :=
    (∃ n : Nat, lX4_entryTo_2 p1 Q n M (0 : Int32))
set_option maxHeartbeats 4000000 in
set_option maxRecDepth 100000 in
theorem tX4_entryTo {l : Launch} {E : xE} {M : xM} {p1 : Int32} {Q : Int32 → xM → Prop} (h : wX4_entryTo M p1 Q) : Ct l E mX4_entryTo [.ref 50, .int p1] M (xRi Q) := by
  refine Ct_of (by decide +kernel) rfl (Nat.le_of_ble_eq_true rfl) ?_
  unfold wX4_entryTo at h
  show Gx l E mX4_entryTo (xRi Q) 0 M [some (.ref 50), some (.int p1), none] []
  refine Gx_run (es := eX4_entryTo_0) (P := []) (M' := M) (L' := [some (.ref 50), some (.int p1), some (.int (0 : Int32))]) (st' := []) (pc' := 2) kX4_entryTo_0 rfl trivial rfl ?_
  refine Gx_mask [true, true, true] (L' := [some (.ref 50), some (.int p1), some (.int (0 : Int32))]) rfl ?_
  obtain ⟨n, h⟩ := h
  exact tX4_entryTo_2  n M (0 : Int32) h
def eX4_freeBlock_0 : List xI := [(.iconst 0, 1, 0, 0, (0)), (.istore_n 1, 1, 0, 0, 0)]
theorem kX4_freeBlock_0 : xcode (xmb mX4_freeBlock) (xmo mX4_freeBlock) 0 eX4_freeBlock_0 = true := by decide +kernel
def eX4_freeBlock_2 : List xI := [(.iload_n 1, 1, 0, 0, 0), (.bipush 24, 2, 0, 0, (24))]
theorem kX4_freeBlock_2 : xcode (xmb mX4_freeBlock) (xmo mX4_freeBlock) 2 eX4_freeBlock_2 = true := by decide +kernel
def eX4_freeBlock_24 : List xI := [(.bipush (-9), 2, 0, 0, (-9))]
theorem kX4_freeBlock_24 : xcode (xmb mX4_freeBlock) (xmo mX4_freeBlock) 24 eX4_freeBlock_24 = true := by decide +kernel
def eX4_freeBlock_8 : List xI := [(.aload_n 0, 1, 0, 0, 0), (.iload_n 1, 1, 0, 0, 0)]
theorem kX4_freeBlock_8 : xcode (xmb mX4_freeBlock) (xmo mX4_freeBlock) 8 eX4_freeBlock_8 = true := by decide +kernel
def eX4_freeBlock_18 : List xI := [(.iinc 1 1, 3, 0, 0, (1))]
theorem kX4_freeBlock_18 : xcode (xmb mX4_freeBlock) (xmo mX4_freeBlock) 18 eX4_freeBlock_18 = true := by decide +kernel
def eX4_freeBlock_16 : List xI := [(.iload_n 1, 1, 0, 0, 0)]
theorem kX4_freeBlock_16 : xcode (xmb mX4_freeBlock) (xmo mX4_freeBlock) 16 eX4_freeBlock_16 = true := by decide +kernel
def lX4_freeBlock_2 (Q : Int32 → xM → Prop) : Nat → xM → Int32 → Prop
  | 0 => fun _ _ => False
  | n + 1 => let k2 := lX4_freeBlock_2  Q n; fun M a1 =>
    ((((24 : Int32) ≤ a1) → (Q (-9 : Int32) M)) ∧ ((¬ (24 : Int32) ≤ a1) → (wX4_pointersTo M a1 (fun r10 M10 => (((¬ r10 = 0) → (k2 M10 (a1 + (1 : Int32)))) ∧ ((r10 = 0) → (Q a1 M10)))))))
set_option maxHeartbeats 4000000 in
set_option maxRecDepth 100000 in
theorem tX4_freeBlock_2 {l : Launch} {E : xE} {Q : Int32 → xM → Prop} (n : Nat) : ∀ (M : xM) (a1 : Int32), lX4_freeBlock_2  Q n M a1 → Gx l E mX4_freeBlock (xRi Q) 2 M [some (.ref 50), some (.int a1)] [] := by
  induction n with
  | zero => intro M a1 h; exact h.elim
  | succ n hk2 =>
      intro M a1 h
      unfold lX4_freeBlock_2 at h
      dsimp only at h
      refine Gx_run (es := eX4_freeBlock_2) (P := []) (M' := M) (L' := [some (.ref 50), some (.int a1)]) (st' := [.int (24 : Int32), .int a1]) (pc' := 5) kX4_freeBlock_2 rfl trivial rfl ?_
      refine Gx_icmp_ge (off := 19) (tgt := 24) (by decide +kernel) (by decide) (fun z => ?_) (fun z => ?_)
      · have h := h.1 z
        refine Gx_run (es := eX4_freeBlock_24) (P := []) (M' := M) (L' := [some (.ref 50), some (.int a1)]) (st' := [.int (-9 : Int32)]) (pc' := 26) kX4_freeBlock_24 rfl trivial rfl ?_
        exact Gx_iret (by decide +kernel) rfl rfl ⟨_, rfl, h⟩
      · have h := h.2 z
        refine Gx_run (es := eX4_freeBlock_8) (P := []) (M' := M) (L' := [some (.ref 50), some (.int a1)]) (st' := [.int a1, .ref 50]) (pc' := 10) kX4_freeBlock_8 rfl trivial rfl ?_
        refine Gx_callV (As := [.int a1]) (by decide +kernel) ml_4_51 okX4_pointersTo mvX4_pointersTo rfl (by decide) (Nat.le_of_ble_eq_true rfl) rfl rfl rfl (tX4_pointersTo h) (fun rr M10 qq => ?_)
        obtain ⟨r10, rfl, h⟩ := qq
        show Gx l E mX4_freeBlock _ 13 M10 [some (.ref 50), some (.int a1)] [.int r10]
        refine Gx_if_ne (off := 5) (tgt := 18) (by decide +kernel) (by decide) (fun z => ?_) (fun z => ?_)
        · have h := h.1 z
          refine Gx_run (es := eX4_freeBlock_18) (P := []) (M' := M10) (L' := [some (.ref 50), some (.int (a1 + (1 : Int32)))]) (st' := []) (pc' := 21) kX4_freeBlock_18 rfl trivial rfl ?_
          refine Gx_goto (off := -19) (tgt := 2) (by decide +kernel) (by decide) ?_
          refine Gx_mask [true, true] (L' := [some (.ref 50), some (.int (a1 + (1 : Int32)))]) rfl ?_
          exact hk2 M10 (a1 + (1 : Int32)) h
        · have h := h.2 z
          refine Gx_run (es := eX4_freeBlock_16) (P := []) (M' := M10) (L' := [some (.ref 50), some (.int a1)]) (st' := [.int a1]) (pc' := 17) kX4_freeBlock_16 rfl trivial rfl ?_
          exact Gx_iret (by decide +kernel) rfl rfl ⟨_, rfl, h⟩
def wX4_freeBlock (M : xM) (Q : Int32 → xM → Prop) : Prop :=
    (∃ n : Nat, lX4_freeBlock_2  Q n M (0 : Int32))
set_option maxHeartbeats 4000000 in
set_option maxRecDepth 100000 in
theorem tX4_freeBlock {l : Launch} {E : xE} {M : xM} {Q : Int32 → xM → Prop} (h : wX4_freeBlock M  Q) : Ct l E mX4_freeBlock [.ref 50] M (xRi Q) := by
  refine Ct_of (by decide +kernel) rfl (Nat.le_of_ble_eq_true rfl) ?_
  unfold wX4_freeBlock at h
  show Gx l E mX4_freeBlock (xRi Q) 0 M [some (.ref 50), none] []
  refine Gx_run (es := eX4_freeBlock_0) (P := []) (M' := M) (L' := [some (.ref 50), some (.int (0 : Int32))]) (st' := []) (pc' := 2) kX4_freeBlock_0 rfl trivial rfl ?_
  refine Gx_mask [true, true] (L' := [some (.ref 50), some (.int (0 : Int32))]) rfl ?_
  obtain ⟨n, h⟩ := h
  exact tX4_freeBlock_2  n M (0 : Int32) h
def eX4_image_0 : List xI := [(.iconst 0, 1, 0, 0, (0)), (.istore_n 1, 1, 0, 0, 0)]
theorem kX4_image_0 : xcode (xmb mX4_image) (xmo mX4_image) 0 eX4_image_0 = true := by decide +kernel
def eX4_image_2 : List xI := [(.iload_n 1, 1, 0, 0, 0), (.sipush 147, 3, 0, 0, (147))]
theorem kX4_image_2 : xcode (xmb mX4_image) (xmo mX4_image) 2 eX4_image_2 = true := by decide +kernel
def eX4_image_27 : List xI := [(.aload_n 0, 1, 0, 0, 0), (.iconst 1, 1, 0, 0, (1)), (.putfield 256, 3, 4, 4, 0), (.aload_n 0, 1, 0, 0, 0)]
theorem kX4_image_27 : xcode (xmb mX4_image) (xmo mX4_image) 27 eX4_image_27 = true := by decide +kernel
def eX4_image_9 : List xI := [(.aload_n 0, 1, 0, 0, 0), (.getfield 13, 3, 4, 2, 0), (.iload_n 1, 1, 0, 0, 0), (.aload_n 0, 1, 0, 0, 0), (.getfield 7, 3, 4, 1, 0), (.iload_n 1, 1, 0, 0, 0), (.iaload, 1, 0, 0, 0), (.iastore, 1, 0, 0, 0), (.iinc 1 1, 3, 0, 0, (1))]
theorem kX4_image_9 : xcode (xmb mX4_image) (xmo mX4_image) 9 eX4_image_9 = true := by decide +kernel
def lX4_image_2 (Q : Int32 → xM → Prop) : Nat → xM → Int32 → Prop
  | 0 => fun _ _ => False
  | n + 1 => let k2 := lX4_image_2  Q n; fun M a1 =>
    ((((147 : Int32) ≤ a1) → (wX4_inodes (xup M 50 4 (1 : Int32)) (fun r33 M33 => Q r33 M33))) ∧ ((¬ (147 : Int32) ≤ a1) → ((vp_in a1 147) ∧ k2 (xup M 52 a1.toNatClampNeg (M 51 a1.toNatClampNeg)) (a1 + (1 : Int32)))))
set_option maxHeartbeats 4000000 in
set_option maxRecDepth 100000 in
theorem tX4_image_2 {l : Launch} {E : xE} {Q : Int32 → xM → Prop} (n : Nat) : ∀ (M : xM) (a1 : Int32), lX4_image_2  Q n M a1 → Gx l E mX4_image (xRi Q) 2 M [some (.ref 50), some (.int a1)] [] := by
  induction n with
  | zero => intro M a1 h; exact h.elim
  | succ n hk2 =>
      intro M a1 h
      unfold lX4_image_2 at h
      dsimp only at h
      refine Gx_run (es := eX4_image_2) (P := []) (M' := M) (L' := [some (.ref 50), some (.int a1)]) (st' := [.int (147 : Int32), .int a1]) (pc' := 6) kX4_image_2 rfl trivial rfl ?_
      refine Gx_icmp_ge (off := 21) (tgt := 27) (by decide +kernel) (by decide) (fun z => ?_) (fun z => ?_)
      · have h := h.1 z
        refine Gx_run (es := eX4_image_27) (P := [xkd 50 = 4, (1 : Int32) = 0 ∨ (1 : Int32) = 1]) (M' := (xup M 50 4 (1 : Int32))) (L' := [some (.ref 50), some (.int a1)]) (st' := [.ref 50]) (pc' := 33) kX4_image_27 rfl ⟨rfl, (Or.inr rfl), trivial⟩ rfl ?_
        refine Gx_callV (As := []) (by decide +kernel) ml_4_230 okX4_inodes mvX4_inodes rfl (by decide) (Nat.le_of_ble_eq_true rfl) rfl rfl rfl (tX4_inodes h) (fun rr M33 qq => ?_)
        obtain ⟨r33, rfl, h⟩ := qq
        show Gx l E mX4_image _ 36 M33 [some (.ref 50), some (.int a1)] [.int r33]
        exact Gx_iret (by decide +kernel) rfl rfl ⟨_, rfl, h⟩
      · have h := h.2 z
        obtain ⟨g9_0, h⟩ := h
        refine Gx_run (es := eX4_image_9) (P := [xkd 50 = 4, xkd 50 = 4, xkd 51 = 5, vp_in a1 (xln 51), xkd 52 = 5, vp_in a1 (xln 52)]) (M' := (xup M 52 a1.toNatClampNeg (M 51 a1.toNatClampNeg))) (L' := [some (.ref 50), some (.int (a1 + (1 : Int32)))]) (st' := []) (pc' := 24) kX4_image_9 rfl ⟨rfl, rfl, rfl, g9_0, rfl, g9_0, trivial⟩ rfl ?_
        refine Gx_goto (off := -22) (tgt := 2) (by decide +kernel) (by decide) ?_
        refine Gx_mask [true, true] (L' := [some (.ref 50), some (.int (a1 + (1 : Int32)))]) rfl ?_
        exact hk2 (xup M 52 a1.toNatClampNeg (M 51 a1.toNatClampNeg)) (a1 + (1 : Int32)) h
def wX4_image (M : xM) (Q : Int32 → xM → Prop) : Prop :=
    (∃ n : Nat, lX4_image_2  Q n M (0 : Int32))
set_option maxHeartbeats 4000000 in
set_option maxRecDepth 100000 in
theorem tX4_image {l : Launch} {E : xE} {M : xM} {Q : Int32 → xM → Prop} (h : wX4_image M  Q) : Ct l E mX4_image [.ref 50] M (xRi Q) := by
  refine Ct_of (by decide +kernel) rfl (Nat.le_of_ble_eq_true rfl) ?_
  unfold wX4_image at h
  show Gx l E mX4_image (xRi Q) 0 M [some (.ref 50), none] []
  refine Gx_run (es := eX4_image_0) (P := []) (M' := M) (L' := [some (.ref 50), some (.int (0 : Int32))]) (st' := []) (pc' := 2) kX4_image_0 rfl trivial rfl ?_
  refine Gx_mask [true, true] (L' := [some (.ref 50), some (.int (0 : Int32))]) rfl ?_
  obtain ⟨n, h⟩ := h
  exact tX4_image_2  n M (0 : Int32) h
def eX4_isBlock_0 : List xI := [(.iload_n 0, 1, 0, 0, 0), (.iconst 0, 1, 0, 0, (0)), (.bipush 23, 2, 0, 0, (23))]
theorem kX4_isBlock_0 : xcode (xmb mX4_isBlock) (xmo mX4_isBlock) 0 eX4_isBlock_0 = true := by decide +kernel
def wX4_isBlock (M : xM) (p1 : Int32) (Q : Int32 → xM → Prop) : Prop :=
    wX4_in M p1 (0 : Int32) (23 : Int32) (fun r4 M4 => (r4 &&& 1 = r4) ∧ Q r4 M4)
set_option maxHeartbeats 4000000 in
set_option maxRecDepth 100000 in
theorem tX4_isBlock {l : Launch} {E : xE} {M : xM} {p1 : Int32} {Q : Int32 → xM → Prop} (h : wX4_isBlock M p1 Q) : Ct l E mX4_isBlock [.int p1] M (xRi Q) := by
  refine Ct_of (by decide +kernel) rfl (Nat.le_of_ble_eq_true rfl) ?_
  unfold wX4_isBlock at h
  show Gx l E mX4_isBlock (xRi Q) 0 M [some (.int p1)] []
  refine Gx_run (es := eX4_isBlock_0) (P := []) (M' := M) (L' := [some (.int p1)]) (st' := [.int (23 : Int32), .int (0 : Int32), .int p1]) (pc' := 4) kX4_isBlock_0 rfl trivial rfl ?_
  refine Gx_callS (As := [.int p1, .int (0 : Int32), .int (23 : Int32)]) (by decide +kernel) ml_4_43 okX4_in mvX4_in rfl (by decide) (Nat.le_of_ble_eq_true rfl) (tX4_in h) (fun rr M4 qq => ?_)
  obtain ⟨r4, rfl, h⟩ := qq
  show Gx l E mX4_isBlock _ 7 M4 [some (.int p1)] [.int r4]
  exact Gx_iret (by decide +kernel) rfl (congrArg Value.int h.1) ⟨_, rfl, h.2⟩
def eX4_isInode_0 : List xI := [(.iload_n 0, 1, 0, 0, 0), (.iconst 0, 1, 0, 0, (0)), (.bipush 9, 2, 0, 0, (9))]
theorem kX4_isInode_0 : xcode (xmb mX4_isInode) (xmo mX4_isInode) 0 eX4_isInode_0 = true := by decide +kernel
def wX4_isInode (M : xM) (p1 : Int32) (Q : Int32 → xM → Prop) : Prop :=
    wX4_in M p1 (0 : Int32) (9 : Int32) (fun r4 M4 => (r4 &&& 1 = r4) ∧ Q r4 M4)
set_option maxHeartbeats 4000000 in
set_option maxRecDepth 100000 in
theorem tX4_isInode {l : Launch} {E : xE} {M : xM} {p1 : Int32} {Q : Int32 → xM → Prop} (h : wX4_isInode M p1 Q) : Ct l E mX4_isInode [.int p1] M (xRi Q) := by
  refine Ct_of (by decide +kernel) rfl (Nat.le_of_ble_eq_true rfl) ?_
  unfold wX4_isInode at h
  show Gx l E mX4_isInode (xRi Q) 0 M [some (.int p1)] []
  refine Gx_run (es := eX4_isInode_0) (P := []) (M' := M) (L' := [some (.int p1)]) (st' := [.int (9 : Int32), .int (0 : Int32), .int p1]) (pc' := 4) kX4_isInode_0 rfl trivial rfl ?_
  refine Gx_callS (As := [.int p1, .int (0 : Int32), .int (9 : Int32)]) (by decide +kernel) ml_4_43 okX4_in mvX4_in rfl (by decide) (Nat.le_of_ble_eq_true rfl) (tX4_in h) (fun rr M4 qq => ?_)
  obtain ⟨r4, rfl, h⟩ := qq
  show Gx l E mX4_isInode _ 7 M4 [some (.int p1)] [.int r4]
  exact Gx_iret (by decide +kernel) rfl (congrArg Value.int h.1) ⟨_, rfl, h.2⟩
def eX4_isListedAhead_0 : List xI := [(.iconst 0, 1, 0, 0, (0)), (.istore_n 3, 1, 0, 0, 0), (.iconst 0, 1, 0, 0, (0)), (.istore 4, 2, 0, 0, 0)]
theorem kX4_isListedAhead_0 : xcode (xmb mX4_isListedAhead) (xmo mX4_isListedAhead) 0 eX4_isListedAhead_0 = true := by decide +kernel
def eX4_isListedAhead_5 : List xI := [(.iload 4, 2, 0, 0, 0), (.iload_n 1, 1, 0, 0, 0)]
theorem kX4_isListedAhead_5 : xcode (xmb mX4_isListedAhead) (xmo mX4_isListedAhead) 5 eX4_isListedAhead_5 = true := by decide +kernel
def eX4_isListedAhead_37 : List xI := [(.iload_n 3, 1, 0, 0, 0)]
theorem kX4_isListedAhead_37 : xcode (xmb mX4_isListedAhead) (xmo mX4_isListedAhead) 37 eX4_isListedAhead_37 = true := by decide +kernel
def eX4_isListedAhead_11 : List xI := [(.iload_n 3, 1, 0, 0, 0)]
theorem kX4_isListedAhead_11 : xcode (xmb mX4_isListedAhead) (xmo mX4_isListedAhead) 11 eX4_isListedAhead_11 = true := by decide +kernel
def eX4_isListedAhead_25 : List xI := [(.iconst 1, 1, 0, 0, (1))]
theorem kX4_isListedAhead_25 : xcode (xmb mX4_isListedAhead) (xmo mX4_isListedAhead) 25 eX4_isListedAhead_25 = true := by decide +kernel
def eX4_isListedAhead_30 : List xI := [(.istore_n 3, 1, 0, 0, 0), (.iinc 4 1, 3, 0, 0, (1))]
theorem kX4_isListedAhead_30 : xcode (xmb mX4_isListedAhead) (xmo mX4_isListedAhead) 30 eX4_isListedAhead_30 = true := by decide +kernel
def eX4_isListedAhead_15 : List xI := [(.aload_n 0, 1, 0, 0, 0), (.iload 4, 2, 0, 0, 0), (.iload_n 2, 1, 0, 0, 0)]
theorem kX4_isListedAhead_15 : xcode (xmb mX4_isListedAhead) (xmo mX4_isListedAhead) 15 eX4_isListedAhead_15 = true := by decide +kernel
def eX4_isListedAhead_29 : List xI := [(.iconst 0, 1, 0, 0, (0))]
theorem kX4_isListedAhead_29 : xcode (xmb mX4_isListedAhead) (xmo mX4_isListedAhead) 29 eX4_isListedAhead_29 = true := by decide +kernel
def wX4_isListedAhead_30 (p1 : Int32) (p2 : Int32) (Q : Int32 → xM → Prop) (k5 : xM → Int32 → Int32 → Prop) (M : xM) (a4 : Int32) (s0 : Int32) : Prop :=
    k5 M s0 (a4 + (1 : Int32))
set_option maxHeartbeats 4000000 in
set_option maxRecDepth 100000 in
theorem tX4_isListedAhead_30 {l : Launch} {E : xE} {p1 : Int32} {p2 : Int32} {Q : Int32 → xM → Prop} {k5 : xM → Int32 → Int32 → Prop} (hk5 : ∀ (M : xM) (a3 : Int32) (a4 : Int32), k5 M a3 a4 → Gx l E mX4_isListedAhead (xRi Q) 5 M [some (.ref 50), some (.int p1), some (.int p2), some (.int a3), some (.int a4)] []) (M : xM) (a4 : Int32) (s0 : Int32) (h : wX4_isListedAhead_30 p1 p2 Q k5 M a4 s0) : Gx l E mX4_isListedAhead (xRi Q) 30 M [some (.ref 50), some (.int p1), some (.int p2), none, some (.int a4)] [.int s0] := by
  unfold wX4_isListedAhead_30 at h
  refine Gx_run (es := eX4_isListedAhead_30) (P := []) (M' := M) (L' := [some (.ref 50), some (.int p1), some (.int p2), some (.int s0), some (.int (a4 + (1 : Int32)))]) (st' := []) (pc' := 34) kX4_isListedAhead_30 rfl trivial rfl ?_
  refine Gx_goto (off := -29) (tgt := 5) (by decide +kernel) (by decide) ?_
  refine Gx_mask [true, true, true, true, true] (L' := [some (.ref 50), some (.int p1), some (.int p2), some (.int s0), some (.int (a4 + (1 : Int32)))]) rfl ?_
  exact hk5 M s0 (a4 + (1 : Int32)) h
def wX4_isListedAhead_25 (p1 : Int32) (p2 : Int32) (Q : Int32 → xM → Prop) (k5 : xM → Int32 → Int32 → Prop) (M : xM) (a4 : Int32) : Prop :=
    wX4_isListedAhead_30 p1 p2 Q k5 M a4 (1 : Int32)
set_option maxHeartbeats 4000000 in
set_option maxRecDepth 100000 in
theorem tX4_isListedAhead_25 {l : Launch} {E : xE} {p1 : Int32} {p2 : Int32} {Q : Int32 → xM → Prop} {k5 : xM → Int32 → Int32 → Prop} (hk5 : ∀ (M : xM) (a3 : Int32) (a4 : Int32), k5 M a3 a4 → Gx l E mX4_isListedAhead (xRi Q) 5 M [some (.ref 50), some (.int p1), some (.int p2), some (.int a3), some (.int a4)] []) (M : xM) (a4 : Int32) (h : wX4_isListedAhead_25 p1 p2 Q k5 M a4) : Gx l E mX4_isListedAhead (xRi Q) 25 M [some (.ref 50), some (.int p1), some (.int p2), none, some (.int a4)] [] := by
  unfold wX4_isListedAhead_25 at h
  refine Gx_run (es := eX4_isListedAhead_25) (P := []) (M' := M) (L' := [some (.ref 50), some (.int p1), some (.int p2), none, some (.int a4)]) (st' := [.int (1 : Int32)]) (pc' := 26) kX4_isListedAhead_25 rfl trivial rfl ?_
  refine Gx_goto (off := 4) (tgt := 30) (by decide +kernel) (by decide) ?_
  refine Gx_mask [true, true, true, false, true] (L' := [some (.ref 50), some (.int p1), some (.int p2), none, some (.int a4)]) rfl ?_
  exact tX4_isListedAhead_30  hk5 M a4 (1 : Int32) h
def lX4_isListedAhead_5 (p1 : Int32) (p2 : Int32) (Q : Int32 → xM → Prop) : Nat → xM → Int32 → Int32 → Prop
  | 0 => fun _ _ _ => False
  | n + 1 => let k5 := lX4_isListedAhead_5 p1 p2 Q n; fun M a3 a4 =>
    (((p1 ≤ a4) → ((a3 &&& 1 = a3) ∧ Q a3 M)) ∧ ((¬ p1 ≤ a4) → ((((¬ a3 = 0) → (wX4_isListedAhead_25 p1 p2 Q k5 M a4)) ∧ ((a3 = 0) → (wX4_isEntryTo M a4 p2 (fun r19 M19 => (((r19 = 0) → (wX4_isListedAhead_30 p1 p2 Q k5 M19 a4 (0 : Int32))) ∧ ((¬ r19 = 0) → (wX4_isListedAhead_25 p1 p2 Q k5 M19 a4))))))))))
set_option maxHeartbeats 4000000 in
set_option maxRecDepth 100000 in
theorem tX4_isListedAhead_5 {l : Launch} {E : xE} {p1 : Int32} {p2 : Int32} {Q : Int32 → xM → Prop} (n : Nat) : ∀ (M : xM) (a3 : Int32) (a4 : Int32), lX4_isListedAhead_5 p1 p2 Q n M a3 a4 → Gx l E mX4_isListedAhead (xRi Q) 5 M [some (.ref 50), some (.int p1), some (.int p2), some (.int a3), some (.int a4)] [] := by
  induction n with
  | zero => intro M a3 a4 h; exact h.elim
  | succ n hk5 =>
      intro M a3 a4 h
      unfold lX4_isListedAhead_5 at h
      dsimp only at h
      refine Gx_run (es := eX4_isListedAhead_5) (P := []) (M' := M) (L' := [some (.ref 50), some (.int p1), some (.int p2), some (.int a3), some (.int a4)]) (st' := [.int p1, .int a4]) (pc' := 8) kX4_isListedAhead_5 rfl trivial rfl ?_
      refine Gx_icmp_ge (off := 29) (tgt := 37) (by decide +kernel) (by decide) (fun z => ?_) (fun z => ?_)
      · have h := h.1 z
        refine Gx_run (es := eX4_isListedAhead_37) (P := []) (M' := M) (L' := [some (.ref 50), some (.int p1), some (.int p2), some (.int a3), some (.int a4)]) (st' := [.int a3]) (pc' := 38) kX4_isListedAhead_37 rfl trivial rfl ?_
        exact Gx_iret (by decide +kernel) rfl (congrArg Value.int h.1) ⟨_, rfl, h.2⟩
      · have h := h.2 z
        refine Gx_run (es := eX4_isListedAhead_11) (P := []) (M' := M) (L' := [some (.ref 50), some (.int p1), some (.int p2), some (.int a3), some (.int a4)]) (st' := [.int a3]) (pc' := 12) kX4_isListedAhead_11 rfl trivial rfl ?_
        refine Gx_if_ne (off := 13) (tgt := 25) (by decide +kernel) (by decide) (fun z => ?_) (fun z => ?_)
        · have h := h.1 z
          refine Gx_mask [true, true, true, false, true] (L' := [some (.ref 50), some (.int p1), some (.int p2), none, some (.int a4)]) rfl ?_
          exact tX4_isListedAhead_25  hk5 M a4 h
        · have h := h.2 z
          refine Gx_run (es := eX4_isListedAhead_15) (P := []) (M' := M) (L' := [some (.ref 50), some (.int p1), some (.int p2), some (.int a3), some (.int a4)]) (st' := [.int p2, .int a4, .ref 50]) (pc' := 19) kX4_isListedAhead_15 rfl trivial rfl ?_
          refine Gx_callV (As := [.int a4, .int p2]) (by decide +kernel) ml_4_47 okX4_isEntryTo mvX4_isEntryTo rfl (by decide) (Nat.le_of_ble_eq_true rfl) rfl rfl rfl (tX4_isEntryTo h) (fun rr M19 qq => ?_)
          obtain ⟨r19, rfl, h⟩ := qq
          show Gx l E mX4_isListedAhead _ 22 M19 [some (.ref 50), some (.int p1), some (.int p2), some (.int a3), some (.int a4)] [.int r19]
          refine Gx_if_eq (off := 7) (tgt := 29) (by decide +kernel) (by decide) (fun z => ?_) (fun z => ?_)
          · have h := h.1 z
            refine Gx_run (es := eX4_isListedAhead_29) (P := []) (M' := M19) (L' := [some (.ref 50), some (.int p1), some (.int p2), some (.int a3), some (.int a4)]) (st' := [.int (0 : Int32)]) (pc' := 30) kX4_isListedAhead_29 rfl trivial rfl ?_
            refine Gx_mask [true, true, true, false, true] (L' := [some (.ref 50), some (.int p1), some (.int p2), none, some (.int a4)]) rfl ?_
            exact tX4_isListedAhead_30  hk5 M19 a4 (0 : Int32) h
          · have h := h.2 z
            refine Gx_mask [true, true, true, false, true] (L' := [some (.ref 50), some (.int p1), some (.int p2), none, some (.int a4)]) rfl ?_
            exact tX4_isListedAhead_25  hk5 M19 a4 h
def wX4_isListedAhead (M : xM) (p1 : Int32) (p2 : Int32) (Q : Int32 → xM → Prop) : Prop :=
    (∃ n : Nat, lX4_isListedAhead_5 p1 p2 Q n M (0 : Int32) (0 : Int32))
set_option maxHeartbeats 4000000 in
set_option maxRecDepth 100000 in
theorem tX4_isListedAhead {l : Launch} {E : xE} {M : xM} {p1 : Int32} {p2 : Int32} {Q : Int32 → xM → Prop} (h : wX4_isListedAhead M p1 p2 Q) : Ct l E mX4_isListedAhead [.ref 50, .int p1, .int p2] M (xRi Q) := by
  refine Ct_of (by decide +kernel) rfl (Nat.le_of_ble_eq_true rfl) ?_
  unfold wX4_isListedAhead at h
  show Gx l E mX4_isListedAhead (xRi Q) 0 M [some (.ref 50), some (.int p1), some (.int p2), none, none] []
  refine Gx_run (es := eX4_isListedAhead_0) (P := []) (M' := M) (L' := [some (.ref 50), some (.int p1), some (.int p2), some (.int (0 : Int32)), some (.int (0 : Int32))]) (st' := []) (pc' := 5) kX4_isListedAhead_0 rfl trivial rfl ?_
  refine Gx_mask [true, true, true, true, true] (L' := [some (.ref 50), some (.int p1), some (.int p2), some (.int (0 : Int32)), some (.int (0 : Int32))]) rfl ?_
  obtain ⟨n, h⟩ := h
  exact tX4_isListedAhead_5  n M (0 : Int32) (0 : Int32) h
def eX4_kinds_0 : List xI := [(.iconst 0, 1, 0, 0, (0)), (.istore_n 2, 1, 0, 0, 0), (.iconst 0, 1, 0, 0, (0)), (.istore_n 3, 1, 0, 0, 0)]
theorem kX4_kinds_0 : xcode (xmb mX4_kinds) (xmo mX4_kinds) 0 eX4_kinds_0 = true := by decide +kernel
def eX4_kinds_4 : List xI := [(.iload_n 3, 1, 0, 0, 0), (.bipush 10, 2, 0, 0, (10))]
theorem kX4_kinds_4 : xcode (xmb mX4_kinds) (xmo mX4_kinds) 4 eX4_kinds_4 = true := by decide +kernel
def eX4_kinds_61 : List xI := [(.iload_n 2, 1, 0, 0, 0)]
theorem kX4_kinds_61 : xcode (xmb mX4_kinds) (xmo mX4_kinds) 61 eX4_kinds_61 = true := by decide +kernel
def eX4_kinds_10 : List xI := [(.iload_n 1, 1, 0, 0, 0)]
theorem kX4_kinds_10 : xcode (xmb mX4_kinds) (xmo mX4_kinds) 10 eX4_kinds_10 = true := by decide +kernel
def eX4_kinds_22 : List xI := [(.aload_n 0, 1, 0, 0, 0), (.getfield 7, 3, 4, 1, 0), (.iconst 0, 1, 0, 0, (0)), (.iload_n 3, 1, 0, 0, 0), (.iadd, 1, 0, 0, 0), (.iaload, 1, 0, 0, 0)]
theorem kX4_kinds_22 : xcode (xmb mX4_kinds) (xmo mX4_kinds) 22 eX4_kinds_22 = true := by decide +kernel
def eX4_kinds_37 : List xI := [(.iconst 0, 1, 0, 0, (0))]
theorem kX4_kinds_37 : xcode (xmb mX4_kinds) (xmo mX4_kinds) 37 eX4_kinds_37 = true := by decide +kernel
def eX4_kinds_38 : List xI := [(.istore 4, 2, 0, 0, 0), (.iload_n 2, 1, 0, 0, 0), (.iload 4, 2, 0, 0, 0)]
theorem kX4_kinds_38 : xcode (xmb mX4_kinds) (xmo mX4_kinds) 38 eX4_kinds_38 = true := by decide +kernel
def eX4_kinds_52 : List xI := [(.iconst 0, 1, 0, 0, (0))]
theorem kX4_kinds_52 : xcode (xmb mX4_kinds) (xmo mX4_kinds) 52 eX4_kinds_52 = true := by decide +kernel
def eX4_kinds_53 : List xI := [(.ior, 1, 0, 0, 0), (.istore_n 2, 1, 0, 0, 0), (.iinc 3 1, 3, 0, 0, (1))]
theorem kX4_kinds_53 : xcode (xmb mX4_kinds) (xmo mX4_kinds) 53 eX4_kinds_53 = true := by decide +kernel
def eX4_kinds_46 : List xI := [(.iconst 1, 1, 0, 0, (1)), (.iload_n 3, 1, 0, 0, 0), (.ishl, 1, 0, 0, 0)]
theorem kX4_kinds_46 : xcode (xmb mX4_kinds) (xmo mX4_kinds) 46 eX4_kinds_46 = true := by decide +kernel
def eX4_kinds_33 : List xI := [(.iconst 1, 1, 0, 0, (1))]
theorem kX4_kinds_33 : xcode (xmb mX4_kinds) (xmo mX4_kinds) 33 eX4_kinds_33 = true := by decide +kernel
def eX4_kinds_14 : List xI := [(.aload_n 0, 1, 0, 0, 0), (.iload_n 3, 1, 0, 0, 0)]
theorem kX4_kinds_14 : xcode (xmb mX4_kinds) (xmo mX4_kinds) 14 eX4_kinds_14 = true := by decide +kernel
def wX4_kinds_53 (p1 : Int32) (Q : Int32 → xM → Prop) (k4 : xM → Int32 → Int32 → Prop) (M : xM) (a3 : Int32) (s0 : Int32) (s1 : Int32) : Prop :=
    k4 M (s1 ||| s0) (a3 + (1 : Int32))
set_option maxHeartbeats 4000000 in
set_option maxRecDepth 100000 in
theorem tX4_kinds_53 {l : Launch} {E : xE} {p1 : Int32} {Q : Int32 → xM → Prop} {k4 : xM → Int32 → Int32 → Prop} (hk4 : ∀ (M : xM) (a2 : Int32) (a3 : Int32), k4 M a2 a3 → Gx l E mX4_kinds (xRi Q) 4 M [some (.ref 50), some (.int p1), some (.int a2), some (.int a3), none] []) (M : xM) (a3 : Int32) (s0 : Int32) (s1 : Int32) (h : wX4_kinds_53 p1 Q k4 M a3 s0 s1) : Gx l E mX4_kinds (xRi Q) 53 M [some (.ref 50), some (.int p1), none, some (.int a3), none] [.int s0, .int s1] := by
  unfold wX4_kinds_53 at h
  refine Gx_run (es := eX4_kinds_53) (P := []) (M' := M) (L' := [some (.ref 50), some (.int p1), some (.int (s1 ||| s0)), some (.int (a3 + (1 : Int32))), none]) (st' := []) (pc' := 58) kX4_kinds_53 rfl trivial rfl ?_
  refine Gx_goto (off := -54) (tgt := 4) (by decide +kernel) (by decide) ?_
  refine Gx_mask [true, true, true, true, false] (L' := [some (.ref 50), some (.int p1), some (.int (s1 ||| s0)), some (.int (a3 + (1 : Int32))), none]) rfl ?_
  exact hk4 M (s1 ||| s0) (a3 + (1 : Int32)) h
def wX4_kinds_38 (p1 : Int32) (Q : Int32 → xM → Prop) (k4 : xM → Int32 → Int32 → Prop) (M : xM) (a2 : Int32) (a3 : Int32) (s0 : Int32) : Prop :=
    (((s0 = 0) → (wX4_kinds_53 p1 Q k4 M a3 (0 : Int32) a2)) ∧ ((¬ s0 = 0) → (wX4_kinds_53 p1 Q k4 M a3 ((1 : Int32) <<< (a3 &&& 31)) a2)))
set_option maxHeartbeats 4000000 in
set_option maxRecDepth 100000 in
theorem tX4_kinds_38 {l : Launch} {E : xE} {p1 : Int32} {Q : Int32 → xM → Prop} {k4 : xM → Int32 → Int32 → Prop} (hk4 : ∀ (M : xM) (a2 : Int32) (a3 : Int32), k4 M a2 a3 → Gx l E mX4_kinds (xRi Q) 4 M [some (.ref 50), some (.int p1), some (.int a2), some (.int a3), none] []) (M : xM) (a2 : Int32) (a3 : Int32) (s0 : Int32) (h : wX4_kinds_38 p1 Q k4 M a2 a3 s0) : Gx l E mX4_kinds (xRi Q) 38 M [some (.ref 50), some (.int p1), some (.int a2), some (.int a3), none] [.int s0] := by
  unfold wX4_kinds_38 at h
  refine Gx_run (es := eX4_kinds_38) (P := []) (M' := M) (L' := [some (.ref 50), some (.int p1), some (.int a2), some (.int a3), some (.int s0)]) (st' := [.int s0, .int a2]) (pc' := 43) kX4_kinds_38 rfl trivial rfl ?_
  refine Gx_if_eq (off := 9) (tgt := 52) (by decide +kernel) (by decide) (fun z => ?_) (fun z => ?_)
  · have h := h.1 z
    refine Gx_run (es := eX4_kinds_52) (P := []) (M' := M) (L' := [some (.ref 50), some (.int p1), some (.int a2), some (.int a3), some (.int s0)]) (st' := [.int (0 : Int32), .int a2]) (pc' := 53) kX4_kinds_52 rfl trivial rfl ?_
    refine Gx_mask [true, true, false, true, false] (L' := [some (.ref 50), some (.int p1), none, some (.int a3), none]) rfl ?_
    exact tX4_kinds_53  hk4 M a3 (0 : Int32) a2 h
  · have h := h.2 z
    refine Gx_run (es := eX4_kinds_46) (P := []) (M' := M) (L' := [some (.ref 50), some (.int p1), some (.int a2), some (.int a3), some (.int s0)]) (st' := [.int ((1 : Int32) <<< (a3 &&& 31)), .int a2]) (pc' := 49) kX4_kinds_46 rfl trivial rfl ?_
    refine Gx_goto (off := 4) (tgt := 53) (by decide +kernel) (by decide) ?_
    refine Gx_mask [true, true, false, true, false] (L' := [some (.ref 50), some (.int p1), none, some (.int a3), none]) rfl ?_
    exact tX4_kinds_53  hk4 M a3 ((1 : Int32) <<< (a3 &&& 31)) a2 h
def lX4_kinds_4 (p1 : Int32) (Q : Int32 → xM → Prop) : Nat → xM → Int32 → Int32 → Prop
  | 0 => fun _ _ _ => False
  | n + 1 => let k4 := lX4_kinds_4 p1 Q n; fun M a2 a3 =>
    ((((10 : Int32) ≤ a3) → (Q a2 M)) ∧ ((¬ (10 : Int32) ≤ a3) → ((((p1 = 0) → ((vp_in ((0 : Int32) + a3) 147) ∧ ((((M 51 ((0 : Int32) + a3).toNatClampNeg) = 0) → (wX4_kinds_38 p1 Q k4 M a2 a3 (0 : Int32))) ∧ ((¬ (M 51 ((0 : Int32) + a3).toNatClampNeg) = 0) → (wX4_kinds_38 p1 Q k4 M a2 a3 (1 : Int32)))))) ∧ ((¬ p1 = 0) → (wX4_isDirectory M a3 (fun r16 M16 => wX4_kinds_38 p1 Q k4 M16 a2 a3 r16)))))))
set_option maxHeartbeats 4000000 in
set_option maxRecDepth 100000 in
theorem tX4_kinds_4 {l : Launch} {E : xE} {p1 : Int32} {Q : Int32 → xM → Prop} (n : Nat) : ∀ (M : xM) (a2 : Int32) (a3 : Int32), lX4_kinds_4 p1 Q n M a2 a3 → Gx l E mX4_kinds (xRi Q) 4 M [some (.ref 50), some (.int p1), some (.int a2), some (.int a3), none] [] := by
  induction n with
  | zero => intro M a2 a3 h; exact h.elim
  | succ n hk4 =>
      intro M a2 a3 h
      unfold lX4_kinds_4 at h
      dsimp only at h
      refine Gx_run (es := eX4_kinds_4) (P := []) (M' := M) (L' := [some (.ref 50), some (.int p1), some (.int a2), some (.int a3), none]) (st' := [.int (10 : Int32), .int a3]) (pc' := 7) kX4_kinds_4 rfl trivial rfl ?_
      refine Gx_icmp_ge (off := 54) (tgt := 61) (by decide +kernel) (by decide) (fun z => ?_) (fun z => ?_)
      · have h := h.1 z
        refine Gx_run (es := eX4_kinds_61) (P := []) (M' := M) (L' := [some (.ref 50), some (.int p1), some (.int a2), some (.int a3), none]) (st' := [.int a2]) (pc' := 62) kX4_kinds_61 rfl trivial rfl ?_
        exact Gx_iret (by decide +kernel) rfl rfl ⟨_, rfl, h⟩
      · have h := h.2 z
        refine Gx_run (es := eX4_kinds_10) (P := []) (M' := M) (L' := [some (.ref 50), some (.int p1), some (.int a2), some (.int a3), none]) (st' := [.int p1]) (pc' := 11) kX4_kinds_10 rfl trivial rfl ?_
        refine Gx_if_eq (off := 11) (tgt := 22) (by decide +kernel) (by decide) (fun z => ?_) (fun z => ?_)
        · have h := h.1 z
          obtain ⟨g22_0, h⟩ := h
          refine Gx_run (es := eX4_kinds_22) (P := [xkd 50 = 4, xkd 51 = 5, vp_in ((0 : Int32) + a3) (xln 51)]) (M' := M) (L' := [some (.ref 50), some (.int p1), some (.int a2), some (.int a3), none]) (st' := [.int (M 51 ((0 : Int32) + a3).toNatClampNeg)]) (pc' := 30) kX4_kinds_22 rfl ⟨rfl, rfl, g22_0, trivial⟩ rfl ?_
          refine Gx_if_eq (off := 7) (tgt := 37) (by decide +kernel) (by decide) (fun z => ?_) (fun z => ?_)
          · have h := h.1 z
            refine Gx_run (es := eX4_kinds_37) (P := []) (M' := M) (L' := [some (.ref 50), some (.int p1), some (.int a2), some (.int a3), none]) (st' := [.int (0 : Int32)]) (pc' := 38) kX4_kinds_37 rfl trivial rfl ?_
            refine Gx_mask [true, true, true, true, false] (L' := [some (.ref 50), some (.int p1), some (.int a2), some (.int a3), none]) rfl ?_
            exact tX4_kinds_38  hk4 M a2 a3 (0 : Int32) h
          · have h := h.2 z
            refine Gx_run (es := eX4_kinds_33) (P := []) (M' := M) (L' := [some (.ref 50), some (.int p1), some (.int a2), some (.int a3), none]) (st' := [.int (1 : Int32)]) (pc' := 34) kX4_kinds_33 rfl trivial rfl ?_
            refine Gx_goto (off := 4) (tgt := 38) (by decide +kernel) (by decide) ?_
            refine Gx_mask [true, true, true, true, false] (L' := [some (.ref 50), some (.int p1), some (.int a2), some (.int a3), none]) rfl ?_
            exact tX4_kinds_38  hk4 M a2 a3 (1 : Int32) h
        · have h := h.2 z
          refine Gx_run (es := eX4_kinds_14) (P := []) (M' := M) (L' := [some (.ref 50), some (.int p1), some (.int a2), some (.int a3), none]) (st' := [.int a3, .ref 50]) (pc' := 16) kX4_kinds_14 rfl trivial rfl ?_
          refine Gx_callV (As := [.int a3]) (by decide +kernel) ml_4_152 okX4_isDirectory mvX4_isDirectory rfl (by decide) (Nat.le_of_ble_eq_true rfl) rfl rfl rfl (tX4_isDirectory h) (fun rr M16 qq => ?_)
          obtain ⟨r16, rfl, h⟩ := qq
          show Gx l E mX4_kinds _ 19 M16 [some (.ref 50), some (.int p1), some (.int a2), some (.int a3), none] [.int r16]
          refine Gx_goto (off := 19) (tgt := 38) (by decide +kernel) (by decide) ?_
          refine Gx_mask [true, true, true, true, false] (L' := [some (.ref 50), some (.int p1), some (.int a2), some (.int a3), none]) rfl ?_
          exact tX4_kinds_38  hk4 M16 a2 a3 r16 h
def wX4_kinds (M : xM) (p1 : Int32) (Q : Int32 → xM → Prop) : Prop :=
    (∃ n : Nat, lX4_kinds_4 p1 Q n M (0 : Int32) (0 : Int32))
set_option maxHeartbeats 4000000 in
set_option maxRecDepth 100000 in
theorem tX4_kinds {l : Launch} {E : xE} {M : xM} {p1 : Int32} {Q : Int32 → xM → Prop} (h : wX4_kinds M p1 Q) : Ct l E mX4_kinds [.ref 50, .int p1] M (xRi Q) := by
  refine Ct_of (by decide +kernel) rfl (Nat.le_of_ble_eq_true rfl) ?_
  unfold wX4_kinds at h
  show Gx l E mX4_kinds (xRi Q) 0 M [some (.ref 50), some (.int p1), none, none, none] []
  refine Gx_run (es := eX4_kinds_0) (P := []) (M' := M) (L' := [some (.ref 50), some (.int p1), some (.int (0 : Int32)), some (.int (0 : Int32)), none]) (st' := []) (pc' := 4) kX4_kinds_0 rfl trivial rfl ?_
  refine Gx_mask [true, true, true, true, false] (L' := [some (.ref 50), some (.int p1), some (.int (0 : Int32)), some (.int (0 : Int32)), none]) rfl ?_
  obtain ⟨n, h⟩ := h
  exact tX4_kinds_4  n M (0 : Int32) (0 : Int32) h
def eX4_letter_0 : List xI := [(.iload_n 1, 1, 0, 0, 0)]
theorem kX4_letter_0 : xcode (xmb mX4_letter) (xmo mX4_letter) 0 eX4_letter_0 = true := by decide +kernel
def eX4_letter_11 : List xI := [(.iload_n 1, 1, 0, 0, 0), (.sipush 255, 3, 0, 0, (255))]
theorem kX4_letter_11 : xcode (xmb mX4_letter) (xmo mX4_letter) 11 eX4_letter_11 = true := by decide +kernel
def eX4_letter_27 : List xI := [(.aload_n 0, 1, 0, 0, 0), (.bipush (-6), 2, 0, 0, (-6))]
theorem kX4_letter_27 : xcode (xmb mX4_letter) (xmo mX4_letter) 27 eX4_letter_27 = true := by decide +kernel
def eX4_letter_18 : List xI := [(.aload_n 0, 1, 0, 0, 0), (.getfield 58, 3, 4, 7, 0), (.bipush 96, 2, 0, 0, (96))]
theorem kX4_letter_18 : xcode (xmb mX4_letter) (xmo mX4_letter) 18 eX4_letter_18 = true := by decide +kernel
def eX4_letter_34 : List xI := [(.aload_n 0, 1, 0, 0, 0), (.getfield 22, 3, 4, 6, 0), (.aload_n 0, 1, 0, 0, 0), (.getfield 58, 3, 4, 7, 0), (.iload_n 1, 1, 0, 0, 0), (.iastore, 1, 0, 0, 0), (.aload_n 0, 1, 0, 0, 0), (.dup, 1, 0, 0, 0), (.getfield 58, 3, 4, 7, 0), (.iconst 1, 1, 0, 0, (1)), (.iadd, 1, 0, 0, 0), (.putfield 58, 3, 4, 7, 0), (.aload_n 0, 1, 0, 0, 0), (.getfield 58, 3, 4, 7, 0)]
theorem kX4_letter_34 : xcode (xmb mX4_letter) (xmo mX4_letter) 34 eX4_letter_34 = true := by decide +kernel
def eX4_letter_4 : List xI := [(.aload_n 0, 1, 0, 0, 0), (.bipush (-4), 2, 0, 0, (-4))]
theorem kX4_letter_4 : xcode (xmb mX4_letter) (xmo mX4_letter) 4 eX4_letter_4 = true := by decide +kernel
def wX4_letter_27 (p1 : Int32) (Q : Int32 → xM → Prop) (M : xM) : Prop :=
    wX4_refused M (-6 : Int32) (fun r30 M30 => Q r30 M30)
set_option maxHeartbeats 4000000 in
set_option maxRecDepth 100000 in
theorem tX4_letter_27 {l : Launch} {E : xE} {p1 : Int32} {Q : Int32 → xM → Prop} (M : xM) (h : wX4_letter_27 p1 Q M ) : Gx l E mX4_letter (xRi Q) 27 M [some (.ref 50), none] [] := by
  unfold wX4_letter_27 at h
  refine Gx_run (es := eX4_letter_27) (P := []) (M' := M) (L' := [some (.ref 50), none]) (st' := [.int (-6 : Int32), .ref 50]) (pc' := 30) kX4_letter_27 rfl trivial rfl ?_
  refine Gx_callV (As := [.int (-6 : Int32)]) (by decide +kernel) ml_4_55 okX4_refused mvX4_refused rfl (by decide) (Nat.le_of_ble_eq_true rfl) rfl rfl rfl (tX4_refused h) (fun rr M30 qq => ?_)
  obtain ⟨r30, rfl, h⟩ := qq
  show Gx l E mX4_letter _ 33 M30 [some (.ref 50), none] [.int r30]
  exact Gx_iret (by decide +kernel) rfl rfl ⟨_, rfl, h⟩
def wX4_letter (M : xM) (p1 : Int32) (Q : Int32 → xM → Prop) : Prop :=
    (((0 ≤ p1) → (((((255 : Int32) < p1) → (wX4_letter_27 p1 Q M)) ∧ ((¬ (255 : Int32) < p1) → ((((¬ (M 50 7) = (96 : Int32)) → ((vp_in (M 50 7) 96) ∧ Q ((xup (xup M 55 (M 50 7).toNatClampNeg p1) 50 7 (((xup M 55 (M 50 7).toNatClampNeg p1) 50 7) + (1 : Int32))) 50 7) (xup (xup M 55 (M 50 7).toNatClampNeg p1) 50 7 (((xup M 55 (M 50 7).toNatClampNeg p1) 50 7) + (1 : Int32))))) ∧ (((M 50 7) = (96 : Int32)) → (wX4_letter_27 p1 Q M)))))))) ∧ ((¬ 0 ≤ p1) → (wX4_refused M (-4 : Int32) (fun r7 M7 => Q r7 M7))))
set_option maxHeartbeats 4000000 in
set_option maxRecDepth 100000 in
theorem tX4_letter {l : Launch} {E : xE} {M : xM} {p1 : Int32} {Q : Int32 → xM → Prop} (h : wX4_letter M p1 Q) : Ct l E mX4_letter [.ref 50, .int p1] M (xRi Q) := by
  refine Ct_of (by decide +kernel) rfl (Nat.le_of_ble_eq_true rfl) ?_
  unfold wX4_letter at h
  show Gx l E mX4_letter (xRi Q) 0 M [some (.ref 50), some (.int p1)] []
  refine Gx_run (es := eX4_letter_0) (P := []) (M' := M) (L' := [some (.ref 50), some (.int p1)]) (st' := [.int p1]) (pc' := 1) kX4_letter_0 rfl trivial rfl ?_
  refine Gx_if_ge (off := 10) (tgt := 11) (by decide +kernel) (by decide) (fun z => ?_) (fun z => ?_)
  · have h := h.1 z
    refine Gx_run (es := eX4_letter_11) (P := []) (M' := M) (L' := [some (.ref 50), some (.int p1)]) (st' := [.int (255 : Int32), .int p1]) (pc' := 15) kX4_letter_11 rfl trivial rfl ?_
    refine Gx_icmp_gt (off := 12) (tgt := 27) (by decide +kernel) (by decide) (fun z => ?_) (fun z => ?_)
    · have h := h.1 z
      refine Gx_mask [true, false] (L' := [some (.ref 50), none]) rfl ?_
      exact tX4_letter_27  M h
    · have h := h.2 z
      refine Gx_run (es := eX4_letter_18) (P := [xkd 50 = 4]) (M' := M) (L' := [some (.ref 50), some (.int p1)]) (st' := [.int (96 : Int32), .int (M 50 7)]) (pc' := 24) kX4_letter_18 rfl ⟨rfl, trivial⟩ rfl ?_
      refine Gx_icmp_ne (off := 10) (tgt := 34) (by decide +kernel) (by decide) (fun z => ?_) (fun z => ?_)
      · have h := h.1 z
        obtain ⟨g34_0, h⟩ := h
        refine Gx_run (es := eX4_letter_34) (P := [xkd 50 = 4, xkd 50 = 4, xkd 55 = 5, vp_in (M 50 7) (xln 55), xkd 50 = 4, xkd 50 = 4, xkd 50 = 4]) (M' := (xup (xup M 55 (M 50 7).toNatClampNeg p1) 50 7 (((xup M 55 (M 50 7).toNatClampNeg p1) 50 7) + (1 : Int32)))) (L' := [some (.ref 50), some (.int p1)]) (st' := [.int ((xup (xup M 55 (M 50 7).toNatClampNeg p1) 50 7 (((xup M 55 (M 50 7).toNatClampNeg p1) 50 7) + (1 : Int32))) 50 7)]) (pc' := 58) kX4_letter_34 rfl ⟨rfl, rfl, rfl, g34_0, rfl, rfl, rfl, trivial⟩ rfl ?_
        exact Gx_iret (by decide +kernel) rfl rfl ⟨_, rfl, h⟩
      · have h := h.2 z
        refine Gx_mask [true, false] (L' := [some (.ref 50), none]) rfl ?_
        exact tX4_letter_27  M h
  · have h := h.2 z
    refine Gx_run (es := eX4_letter_4) (P := []) (M' := M) (L' := [some (.ref 50), some (.int p1)]) (st' := [.int (-4 : Int32), .ref 50]) (pc' := 7) kX4_letter_4 rfl trivial rfl ?_
    refine Gx_callV (As := [.int (-4 : Int32)]) (by decide +kernel) ml_4_55 okX4_refused mvX4_refused rfl (by decide) (Nat.le_of_ble_eq_true rfl) rfl rfl rfl (tX4_refused h) (fun rr M7 qq => ?_)
    obtain ⟨r7, rfl, h⟩ := qq
    show Gx l E mX4_letter _ 10 M7 [some (.ref 50), some (.int p1)] [.int r7]
    exact Gx_iret (by decide +kernel) rfl rfl ⟨_, rfl, h⟩
def eX4_maps_0 : List xI := [(.iconst 0, 1, 0, 0, (0)), (.istore_n 1, 1, 0, 0, 0)]
theorem kX4_maps_0 : xcode (xmb mX4_maps) (xmo mX4_maps) 0 eX4_maps_0 = true := by decide +kernel
def eX4_maps_2 : List xI := [(.iload_n 1, 1, 0, 0, 0), (.bipush 24, 2, 0, 0, (24))]
theorem kX4_maps_2 : xcode (xmb mX4_maps) (xmo mX4_maps) 2 eX4_maps_2 = true := by decide +kernel
def eX4_maps_75 : List xI := [(.iconst 0, 1, 0, 0, (0)), (.istore_n 1, 1, 0, 0, 0)]
theorem kX4_maps_75 : xcode (xmb mX4_maps) (xmo mX4_maps) 75 eX4_maps_75 = true := by decide +kernel
def eX4_maps_77 : List xI := [(.iload_n 1, 1, 0, 0, 0), (.bipush 10, 2, 0, 0, (10))]
theorem kX4_maps_77 : xcode (xmb mX4_maps) (xmo mX4_maps) 77 eX4_maps_77 = true := by decide +kernel
def eX4_maps_83 : List xI := [(.aload_n 0, 1, 0, 0, 0), (.bipush 16, 2, 0, 0, (16))]
theorem kX4_maps_83 : xcode (xmb mX4_maps) (xmo mX4_maps) 83 eX4_maps_83 = true := by decide +kernel
def eX4_maps_92 : List xI := [(.aload_n 0, 1, 0, 0, 0), (.getfield 7, 3, 4, 1, 0), (.iconst 0, 1, 0, 0, (0)), (.iload_n 1, 1, 0, 0, 0), (.iadd, 1, 0, 0, 0), (.iaload, 1, 0, 0, 0)]
theorem kX4_maps_92 : xcode (xmb mX4_maps) (xmo mX4_maps) 92 eX4_maps_92 = true := by decide +kernel
def eX4_maps_107 : List xI := [(.iconst 1, 1, 0, 0, (1))]
theorem kX4_maps_107 : xcode (xmb mX4_maps) (xmo mX4_maps) 107 eX4_maps_107 = true := by decide +kernel
def eX4_maps_108 : List xI := [(.istore_n 2, 1, 0, 0, 0), (.aload_n 0, 1, 0, 0, 0), (.getfield 7, 3, 4, 1, 0), (.sipush 145, 3, 0, 0, (145)), (.iaload, 1, 0, 0, 0), (.iload_n 1, 1, 0, 0, 0), (.ishr, 1, 0, 0, 0), (.iconst 1, 1, 0, 0, (1)), (.iand, 1, 0, 0, 0), (.iload_n 2, 1, 0, 0, 0)]
theorem kX4_maps_108 : xcode (xmb mX4_maps) (xmo mX4_maps) 108 eX4_maps_108 = true := by decide +kernel
def eX4_maps_147 : List xI := [(.iinc 1 1, 3, 0, 0, (1))]
theorem kX4_maps_147 : xcode (xmb mX4_maps) (xmo mX4_maps) 147 eX4_maps_147 = true := by decide +kernel
def eX4_maps_125 : List xI := [(.aload_n 0, 1, 0, 0, 0), (.bipush 16, 2, 0, 0, (16)), (.iload_n 1, 1, 0, 0, 0), (.iconst 0, 1, 0, 0, (0))]
theorem kX4_maps_125 : xcode (xmb mX4_maps) (xmo mX4_maps) 125 eX4_maps_125 = true := by decide +kernel
def eX4_maps_133 : List xI := [(.aload_n 0, 1, 0, 0, 0), (.getfield 7, 3, 4, 1, 0), (.sipush 145, 3, 0, 0, (145)), (.dup2, 1, 0, 0, 0), (.iaload, 1, 0, 0, 0), (.iconst 1, 1, 0, 0, (1)), (.iload_n 1, 1, 0, 0, 0), (.ishl, 1, 0, 0, 0), (.ixor, 1, 0, 0, 0), (.iastore, 1, 0, 0, 0)]
theorem kX4_maps_133 : xcode (xmb mX4_maps) (xmo mX4_maps) 133 eX4_maps_133 = true := by decide +kernel
def eX4_maps_103 : List xI := [(.iconst 0, 1, 0, 0, (0))]
theorem kX4_maps_103 : xcode (xmb mX4_maps) (xmo mX4_maps) 103 eX4_maps_103 = true := by decide +kernel
def eX4_maps_8 : List xI := [(.aload_n 0, 1, 0, 0, 0), (.bipush 15, 2, 0, 0, (15))]
theorem kX4_maps_8 : xcode (xmb mX4_maps) (xmo mX4_maps) 8 eX4_maps_8 = true := by decide +kernel
def eX4_maps_17 : List xI := [(.aload_n 0, 1, 0, 0, 0), (.iload_n 1, 1, 0, 0, 0)]
theorem kX4_maps_17 : xcode (xmb mX4_maps) (xmo mX4_maps) 17 eX4_maps_17 = true := by decide +kernel
def eX4_maps_29 : List xI := [(.iconst 0, 1, 0, 0, (0))]
theorem kX4_maps_29 : xcode (xmb mX4_maps) (xmo mX4_maps) 29 eX4_maps_29 = true := by decide +kernel
def eX4_maps_30 : List xI := [(.istore_n 2, 1, 0, 0, 0), (.aload_n 0, 1, 0, 0, 0), (.getfield 7, 3, 4, 1, 0), (.sipush 144, 3, 0, 0, (144)), (.iaload, 1, 0, 0, 0), (.iload_n 1, 1, 0, 0, 0), (.ishr, 1, 0, 0, 0), (.iconst 1, 1, 0, 0, (1)), (.iand, 1, 0, 0, 0), (.iload_n 2, 1, 0, 0, 0)]
theorem kX4_maps_30 : xcode (xmb mX4_maps) (xmo mX4_maps) 30 eX4_maps_30 = true := by decide +kernel
def eX4_maps_69 : List xI := [(.iinc 1 1, 3, 0, 0, (1))]
theorem kX4_maps_69 : xcode (xmb mX4_maps) (xmo mX4_maps) 69 eX4_maps_69 = true := by decide +kernel
def eX4_maps_47 : List xI := [(.aload_n 0, 1, 0, 0, 0), (.bipush 15, 2, 0, 0, (15)), (.iload_n 1, 1, 0, 0, 0), (.iconst 0, 1, 0, 0, (0))]
theorem kX4_maps_47 : xcode (xmb mX4_maps) (xmo mX4_maps) 47 eX4_maps_47 = true := by decide +kernel
def eX4_maps_55 : List xI := [(.aload_n 0, 1, 0, 0, 0), (.getfield 7, 3, 4, 1, 0), (.sipush 144, 3, 0, 0, (144)), (.dup2, 1, 0, 0, 0), (.iaload, 1, 0, 0, 0), (.iconst 1, 1, 0, 0, (1)), (.iload_n 1, 1, 0, 0, 0), (.ishl, 1, 0, 0, 0), (.ixor, 1, 0, 0, 0), (.iastore, 1, 0, 0, 0)]
theorem kX4_maps_55 : xcode (xmb mX4_maps) (xmo mX4_maps) 55 eX4_maps_55 = true := by decide +kernel
def eX4_maps_25 : List xI := [(.iconst 1, 1, 0, 0, (1))]
theorem kX4_maps_25 : xcode (xmb mX4_maps) (xmo mX4_maps) 25 eX4_maps_25 = true := by decide +kernel
def wX4_maps_153 (Q : xM → Prop) (M : xM) : Prop :=
    Q M
set_option maxHeartbeats 4000000 in
set_option maxRecDepth 100000 in
theorem tX4_maps_153 {l : Launch} {E : xE} {Q : xM → Prop} (M : xM) (h : wX4_maps_153  Q M ) : Gx l E mX4_maps (xRv Q) 153 M [none, none, none] [] := by
  unfold wX4_maps_153 at h
  exact Gx_vret (by decide +kernel) rfl ⟨rfl, h⟩
def wX4_maps_147 (Q : xM → Prop) (k77 : xM → Int32 → Prop) (M : xM) (a1 : Int32) : Prop :=
    k77 M (a1 + (1 : Int32))
set_option maxHeartbeats 4000000 in
set_option maxRecDepth 100000 in
theorem tX4_maps_147 {l : Launch} {E : xE} {Q : xM → Prop} {k77 : xM → Int32 → Prop} (hk77 : ∀ (M : xM) (a1 : Int32), k77 M a1 → Gx l E mX4_maps (xRv Q) 77 M [some (.ref 50), some (.int a1), none] []) (M : xM) (a1 : Int32) (h : wX4_maps_147  Q k77 M a1) : Gx l E mX4_maps (xRv Q) 147 M [some (.ref 50), some (.int a1), none] [] := by
  unfold wX4_maps_147 at h
  refine Gx_run (es := eX4_maps_147) (P := []) (M' := M) (L' := [some (.ref 50), some (.int (a1 + (1 : Int32))), none]) (st' := []) (pc' := 150) kX4_maps_147 rfl trivial rfl ?_
  refine Gx_goto (off := -73) (tgt := 77) (by decide +kernel) (by decide) ?_
  refine Gx_mask [true, true, false] (L' := [some (.ref 50), some (.int (a1 + (1 : Int32))), none]) rfl ?_
  exact hk77 M (a1 + (1 : Int32)) h
def wX4_maps_108 (Q : xM → Prop) (k77 : xM → Int32 → Prop) (M : xM) (a1 : Int32) (s0 : Int32) : Prop :=
    (vp_in (145 : Int32) 147) ∧ ((((((M 51 (145 : Int32).toNatClampNeg) >>> (a1 &&& 31)) &&& (1 : Int32)) = s0) → (wX4_maps_147  Q k77 M a1)) ∧ ((¬ (((M 51 (145 : Int32).toNatClampNeg) >>> (a1 &&& 31)) &&& (1 : Int32)) = s0) → (wX4_asks M (16 : Int32) a1 (0 : Int32) (fun M130 => (vp_in (145 : Int32) 147) ∧ wX4_maps_147  Q k77 (xup M130 51 (145 : Int32).toNatClampNeg ((M130 51 (145 : Int32).toNatClampNeg) ^^^ ((1 : Int32) <<< (a1 &&& 31)))) a1))))
set_option maxHeartbeats 4000000 in
set_option maxRecDepth 100000 in
theorem tX4_maps_108 {l : Launch} {E : xE} {Q : xM → Prop} {k77 : xM → Int32 → Prop} (hk77 : ∀ (M : xM) (a1 : Int32), k77 M a1 → Gx l E mX4_maps (xRv Q) 77 M [some (.ref 50), some (.int a1), none] []) (M : xM) (a1 : Int32) (s0 : Int32) (h : wX4_maps_108  Q k77 M a1 s0) : Gx l E mX4_maps (xRv Q) 108 M [some (.ref 50), some (.int a1), none] [.int s0] := by
  unfold wX4_maps_108 at h
  obtain ⟨g108_0, h⟩ := h
  refine Gx_run (es := eX4_maps_108) (P := [xkd 50 = 4, xkd 51 = 5, vp_in (145 : Int32) (xln 51)]) (M' := M) (L' := [some (.ref 50), some (.int a1), some (.int s0)]) (st' := [.int s0, .int (((M 51 (145 : Int32).toNatClampNeg) >>> (a1 &&& 31)) &&& (1 : Int32))]) (pc' := 122) kX4_maps_108 rfl ⟨rfl, rfl, g108_0, trivial⟩ rfl ?_
  refine Gx_icmp_eq (off := 25) (tgt := 147) (by decide +kernel) (by decide) (fun z => ?_) (fun z => ?_)
  · have h := h.1 z
    refine Gx_mask [true, true, false] (L' := [some (.ref 50), some (.int a1), none]) rfl ?_
    exact tX4_maps_147  hk77 M a1 h
  · have h := h.2 z
    refine Gx_run (es := eX4_maps_125) (P := []) (M' := M) (L' := [some (.ref 50), some (.int a1), some (.int s0)]) (st' := [.int (0 : Int32), .int a1, .int (16 : Int32), .ref 50]) (pc' := 130) kX4_maps_125 rfl trivial rfl ?_
    refine Gx_callV (As := [.int (16 : Int32), .int a1, .int (0 : Int32)]) (by decide +kernel) ml_4_136 okX4_asks mvX4_asks rfl (by decide) (Nat.le_of_ble_eq_true rfl) rfl rfl rfl (tX4_asks h) (fun rr M130 qq => ?_)
    obtain ⟨rfl, h⟩ := qq
    show Gx l E mX4_maps _ 133 M130 [some (.ref 50), some (.int a1), some (.int s0)] []
    obtain ⟨g133_0, h⟩ := h
    refine Gx_run (es := eX4_maps_133) (P := [xkd 50 = 4, xkd 51 = 5, vp_in (145 : Int32) (xln 51), xkd 51 = 5, vp_in (145 : Int32) (xln 51)]) (M' := (xup M130 51 (145 : Int32).toNatClampNeg ((M130 51 (145 : Int32).toNatClampNeg) ^^^ ((1 : Int32) <<< (a1 &&& 31))))) (L' := [some (.ref 50), some (.int a1), some (.int s0)]) (st' := []) (pc' := 147) kX4_maps_133 rfl ⟨rfl, rfl, g133_0, rfl, g133_0, trivial⟩ rfl ?_
    refine Gx_mask [true, true, false] (L' := [some (.ref 50), some (.int a1), none]) rfl ?_
    exact tX4_maps_147  hk77 (xup M130 51 (145 : Int32).toNatClampNeg ((M130 51 (145 : Int32).toNatClampNeg) ^^^ ((1 : Int32) <<< (a1 &&& 31)))) a1 h
def lX4_maps_77 (Q : xM → Prop) : Nat → xM → Int32 → Prop
  | 0 => fun _ _ => False
  | n + 1 => let k77 := lX4_maps_77  Q n; fun M a1 =>
    ((((10 : Int32) ≤ a1) → (wX4_maps_153  Q M)) ∧ ((¬ (10 : Int32) ≤ a1) → (wX4_isRefused M (16 : Int32) (fun r86 M86 => (((¬ r86 = 0) → (wX4_maps_153  Q M86)) ∧ ((r86 = 0) → ((vp_in ((0 : Int32) + a1) 147) ∧ (((¬ (M86 51 ((0 : Int32) + a1).toNatClampNeg) = 0) → (wX4_maps_108  Q k77 M86 a1 (1 : Int32))) ∧ (((M86 51 ((0 : Int32) + a1).toNatClampNeg) = 0) → (wX4_maps_108  Q k77 M86 a1 (0 : Int32)))))))))))
set_option maxHeartbeats 4000000 in
set_option maxRecDepth 100000 in
theorem tX4_maps_77 {l : Launch} {E : xE} {Q : xM → Prop} (n : Nat) : ∀ (M : xM) (a1 : Int32), lX4_maps_77  Q n M a1 → Gx l E mX4_maps (xRv Q) 77 M [some (.ref 50), some (.int a1), none] [] := by
  induction n with
  | zero => intro M a1 h; exact h.elim
  | succ n hk77 =>
      intro M a1 h
      unfold lX4_maps_77 at h
      dsimp only at h
      refine Gx_run (es := eX4_maps_77) (P := []) (M' := M) (L' := [some (.ref 50), some (.int a1), none]) (st' := [.int (10 : Int32), .int a1]) (pc' := 80) kX4_maps_77 rfl trivial rfl ?_
      refine Gx_icmp_ge (off := 73) (tgt := 153) (by decide +kernel) (by decide) (fun z => ?_) (fun z => ?_)
      · have h := h.1 z
        refine Gx_mask [false, false, false] (L' := [none, none, none]) rfl ?_
        exact tX4_maps_153  M h
      · have h := h.2 z
        refine Gx_run (es := eX4_maps_83) (P := []) (M' := M) (L' := [some (.ref 50), some (.int a1), none]) (st' := [.int (16 : Int32), .ref 50]) (pc' := 86) kX4_maps_83 rfl trivial rfl ?_
        refine Gx_callV (As := [.int (16 : Int32)]) (by decide +kernel) ml_4_140 okX4_isRefused mvX4_isRefused rfl (by decide) (Nat.le_of_ble_eq_true rfl) rfl rfl rfl (tX4_isRefused h) (fun rr M86 qq => ?_)
        obtain ⟨r86, rfl, h⟩ := qq
        show Gx l E mX4_maps _ 89 M86 [some (.ref 50), some (.int a1), none] [.int r86]
        refine Gx_if_ne (off := 64) (tgt := 153) (by decide +kernel) (by decide) (fun z => ?_) (fun z => ?_)
        · have h := h.1 z
          refine Gx_mask [false, false, false] (L' := [none, none, none]) rfl ?_
          exact tX4_maps_153  M86 h
        · have h := h.2 z
          obtain ⟨g92_0, h⟩ := h
          refine Gx_run (es := eX4_maps_92) (P := [xkd 50 = 4, xkd 51 = 5, vp_in ((0 : Int32) + a1) (xln 51)]) (M' := M86) (L' := [some (.ref 50), some (.int a1), none]) (st' := [.int (M86 51 ((0 : Int32) + a1).toNatClampNeg)]) (pc' := 100) kX4_maps_92 rfl ⟨rfl, rfl, g92_0, trivial⟩ rfl ?_
          refine Gx_if_ne (off := 7) (tgt := 107) (by decide +kernel) (by decide) (fun z => ?_) (fun z => ?_)
          · have h := h.1 z
            refine Gx_run (es := eX4_maps_107) (P := []) (M' := M86) (L' := [some (.ref 50), some (.int a1), none]) (st' := [.int (1 : Int32)]) (pc' := 108) kX4_maps_107 rfl trivial rfl ?_
            refine Gx_mask [true, true, false] (L' := [some (.ref 50), some (.int a1), none]) rfl ?_
            exact tX4_maps_108  hk77 M86 a1 (1 : Int32) h
          · have h := h.2 z
            refine Gx_run (es := eX4_maps_103) (P := []) (M' := M86) (L' := [some (.ref 50), some (.int a1), none]) (st' := [.int (0 : Int32)]) (pc' := 104) kX4_maps_103 rfl trivial rfl ?_
            refine Gx_goto (off := 4) (tgt := 108) (by decide +kernel) (by decide) ?_
            refine Gx_mask [true, true, false] (L' := [some (.ref 50), some (.int a1), none]) rfl ?_
            exact tX4_maps_108  hk77 M86 a1 (0 : Int32) h
def wX4_maps_75 (Q : xM → Prop) (M : xM) : Prop :=
    (∃ n : Nat, lX4_maps_77  Q n M (0 : Int32))
set_option maxHeartbeats 4000000 in
set_option maxRecDepth 100000 in
theorem tX4_maps_75 {l : Launch} {E : xE} {Q : xM → Prop} (M : xM) (h : wX4_maps_75  Q M ) : Gx l E mX4_maps (xRv Q) 75 M [some (.ref 50), none, none] [] := by
  unfold wX4_maps_75 at h
  refine Gx_run (es := eX4_maps_75) (P := []) (M' := M) (L' := [some (.ref 50), some (.int (0 : Int32)), none]) (st' := []) (pc' := 77) kX4_maps_75 rfl trivial rfl ?_
  refine Gx_mask [true, true, false] (L' := [some (.ref 50), some (.int (0 : Int32)), none]) rfl ?_
  obtain ⟨n, h⟩ := h
  exact tX4_maps_77  n M (0 : Int32) h
def wX4_maps_69 (Q : xM → Prop) (k2 : xM → Int32 → Prop) (M : xM) (a1 : Int32) : Prop :=
    k2 M (a1 + (1 : Int32))
set_option maxHeartbeats 4000000 in
set_option maxRecDepth 100000 in
theorem tX4_maps_69 {l : Launch} {E : xE} {Q : xM → Prop} {k2 : xM → Int32 → Prop} (hk2 : ∀ (M : xM) (a1 : Int32), k2 M a1 → Gx l E mX4_maps (xRv Q) 2 M [some (.ref 50), some (.int a1), none] []) (M : xM) (a1 : Int32) (h : wX4_maps_69  Q k2 M a1) : Gx l E mX4_maps (xRv Q) 69 M [some (.ref 50), some (.int a1), none] [] := by
  unfold wX4_maps_69 at h
  refine Gx_run (es := eX4_maps_69) (P := []) (M' := M) (L' := [some (.ref 50), some (.int (a1 + (1 : Int32))), none]) (st' := []) (pc' := 72) kX4_maps_69 rfl trivial rfl ?_
  refine Gx_goto (off := -70) (tgt := 2) (by decide +kernel) (by decide) ?_
  refine Gx_mask [true, true, false] (L' := [some (.ref 50), some (.int (a1 + (1 : Int32))), none]) rfl ?_
  exact hk2 M (a1 + (1 : Int32)) h
def wX4_maps_30 (Q : xM → Prop) (k2 : xM → Int32 → Prop) (M : xM) (a1 : Int32) (s0 : Int32) : Prop :=
    (vp_in (144 : Int32) 147) ∧ ((((((M 51 (144 : Int32).toNatClampNeg) >>> (a1 &&& 31)) &&& (1 : Int32)) = s0) → (wX4_maps_69  Q k2 M a1)) ∧ ((¬ (((M 51 (144 : Int32).toNatClampNeg) >>> (a1 &&& 31)) &&& (1 : Int32)) = s0) → (wX4_asks M (15 : Int32) a1 (0 : Int32) (fun M52 => (vp_in (144 : Int32) 147) ∧ wX4_maps_69  Q k2 (xup M52 51 (144 : Int32).toNatClampNeg ((M52 51 (144 : Int32).toNatClampNeg) ^^^ ((1 : Int32) <<< (a1 &&& 31)))) a1))))
set_option maxHeartbeats 4000000 in
set_option maxRecDepth 100000 in
theorem tX4_maps_30 {l : Launch} {E : xE} {Q : xM → Prop} {k2 : xM → Int32 → Prop} (hk2 : ∀ (M : xM) (a1 : Int32), k2 M a1 → Gx l E mX4_maps (xRv Q) 2 M [some (.ref 50), some (.int a1), none] []) (M : xM) (a1 : Int32) (s0 : Int32) (h : wX4_maps_30  Q k2 M a1 s0) : Gx l E mX4_maps (xRv Q) 30 M [some (.ref 50), some (.int a1), none] [.int s0] := by
  unfold wX4_maps_30 at h
  obtain ⟨g30_0, h⟩ := h
  refine Gx_run (es := eX4_maps_30) (P := [xkd 50 = 4, xkd 51 = 5, vp_in (144 : Int32) (xln 51)]) (M' := M) (L' := [some (.ref 50), some (.int a1), some (.int s0)]) (st' := [.int s0, .int (((M 51 (144 : Int32).toNatClampNeg) >>> (a1 &&& 31)) &&& (1 : Int32))]) (pc' := 44) kX4_maps_30 rfl ⟨rfl, rfl, g30_0, trivial⟩ rfl ?_
  refine Gx_icmp_eq (off := 25) (tgt := 69) (by decide +kernel) (by decide) (fun z => ?_) (fun z => ?_)
  · have h := h.1 z
    refine Gx_mask [true, true, false] (L' := [some (.ref 50), some (.int a1), none]) rfl ?_
    exact tX4_maps_69  hk2 M a1 h
  · have h := h.2 z
    refine Gx_run (es := eX4_maps_47) (P := []) (M' := M) (L' := [some (.ref 50), some (.int a1), some (.int s0)]) (st' := [.int (0 : Int32), .int a1, .int (15 : Int32), .ref 50]) (pc' := 52) kX4_maps_47 rfl trivial rfl ?_
    refine Gx_callV (As := [.int (15 : Int32), .int a1, .int (0 : Int32)]) (by decide +kernel) ml_4_136 okX4_asks mvX4_asks rfl (by decide) (Nat.le_of_ble_eq_true rfl) rfl rfl rfl (tX4_asks h) (fun rr M52 qq => ?_)
    obtain ⟨rfl, h⟩ := qq
    show Gx l E mX4_maps _ 55 M52 [some (.ref 50), some (.int a1), some (.int s0)] []
    obtain ⟨g55_0, h⟩ := h
    refine Gx_run (es := eX4_maps_55) (P := [xkd 50 = 4, xkd 51 = 5, vp_in (144 : Int32) (xln 51), xkd 51 = 5, vp_in (144 : Int32) (xln 51)]) (M' := (xup M52 51 (144 : Int32).toNatClampNeg ((M52 51 (144 : Int32).toNatClampNeg) ^^^ ((1 : Int32) <<< (a1 &&& 31))))) (L' := [some (.ref 50), some (.int a1), some (.int s0)]) (st' := []) (pc' := 69) kX4_maps_55 rfl ⟨rfl, rfl, g55_0, rfl, g55_0, trivial⟩ rfl ?_
    refine Gx_mask [true, true, false] (L' := [some (.ref 50), some (.int a1), none]) rfl ?_
    exact tX4_maps_69  hk2 (xup M52 51 (144 : Int32).toNatClampNeg ((M52 51 (144 : Int32).toNatClampNeg) ^^^ ((1 : Int32) <<< (a1 &&& 31)))) a1 h
def lX4_maps_2 (Q : xM → Prop) : Nat → xM → Int32 → Prop
  | 0 => fun _ _ => False
  | n + 1 => let k2 := lX4_maps_2  Q n; fun M a1 =>
    ((((24 : Int32) ≤ a1) → (wX4_maps_75  Q M)) ∧ ((¬ (24 : Int32) ≤ a1) → (wX4_isRefused M (15 : Int32) (fun r11 M11 => (((¬ r11 = 0) → (wX4_maps_75  Q M11)) ∧ ((r11 = 0) → (wX4_pointersTo M11 a1 (fun r19 M19 => (((r19 ≤ 0) → (wX4_maps_30  Q k2 M19 a1 (0 : Int32))) ∧ ((¬ r19 ≤ 0) → (wX4_maps_30  Q k2 M19 a1 (1 : Int32))))))))))))
set_option maxHeartbeats 4000000 in
set_option maxRecDepth 100000 in
theorem tX4_maps_2 {l : Launch} {E : xE} {Q : xM → Prop} (n : Nat) : ∀ (M : xM) (a1 : Int32), lX4_maps_2  Q n M a1 → Gx l E mX4_maps (xRv Q) 2 M [some (.ref 50), some (.int a1), none] [] := by
  induction n with
  | zero => intro M a1 h; exact h.elim
  | succ n hk2 =>
      intro M a1 h
      unfold lX4_maps_2 at h
      dsimp only at h
      refine Gx_run (es := eX4_maps_2) (P := []) (M' := M) (L' := [some (.ref 50), some (.int a1), none]) (st' := [.int (24 : Int32), .int a1]) (pc' := 5) kX4_maps_2 rfl trivial rfl ?_
      refine Gx_icmp_ge (off := 70) (tgt := 75) (by decide +kernel) (by decide) (fun z => ?_) (fun z => ?_)
      · have h := h.1 z
        refine Gx_mask [true, false, false] (L' := [some (.ref 50), none, none]) rfl ?_
        exact tX4_maps_75  M h
      · have h := h.2 z
        refine Gx_run (es := eX4_maps_8) (P := []) (M' := M) (L' := [some (.ref 50), some (.int a1), none]) (st' := [.int (15 : Int32), .ref 50]) (pc' := 11) kX4_maps_8 rfl trivial rfl ?_
        refine Gx_callV (As := [.int (15 : Int32)]) (by decide +kernel) ml_4_140 okX4_isRefused mvX4_isRefused rfl (by decide) (Nat.le_of_ble_eq_true rfl) rfl rfl rfl (tX4_isRefused h) (fun rr M11 qq => ?_)
        obtain ⟨r11, rfl, h⟩ := qq
        show Gx l E mX4_maps _ 14 M11 [some (.ref 50), some (.int a1), none] [.int r11]
        refine Gx_if_ne (off := 61) (tgt := 75) (by decide +kernel) (by decide) (fun z => ?_) (fun z => ?_)
        · have h := h.1 z
          refine Gx_mask [true, false, false] (L' := [some (.ref 50), none, none]) rfl ?_
          exact tX4_maps_75  M11 h
        · have h := h.2 z
          refine Gx_run (es := eX4_maps_17) (P := []) (M' := M11) (L' := [some (.ref 50), some (.int a1), none]) (st' := [.int a1, .ref 50]) (pc' := 19) kX4_maps_17 rfl trivial rfl ?_
          refine Gx_callV (As := [.int a1]) (by decide +kernel) ml_4_51 okX4_pointersTo mvX4_pointersTo rfl (by decide) (Nat.le_of_ble_eq_true rfl) rfl rfl rfl (tX4_pointersTo h) (fun rr M19 qq => ?_)
          obtain ⟨r19, rfl, h⟩ := qq
          show Gx l E mX4_maps _ 22 M19 [some (.ref 50), some (.int a1), none] [.int r19]
          refine Gx_if_le (off := 7) (tgt := 29) (by decide +kernel) (by decide) (fun z => ?_) (fun z => ?_)
          · have h := h.1 z
            refine Gx_run (es := eX4_maps_29) (P := []) (M' := M19) (L' := [some (.ref 50), some (.int a1), none]) (st' := [.int (0 : Int32)]) (pc' := 30) kX4_maps_29 rfl trivial rfl ?_
            refine Gx_mask [true, true, false] (L' := [some (.ref 50), some (.int a1), none]) rfl ?_
            exact tX4_maps_30  hk2 M19 a1 (0 : Int32) h
          · have h := h.2 z
            refine Gx_run (es := eX4_maps_25) (P := []) (M' := M19) (L' := [some (.ref 50), some (.int a1), none]) (st' := [.int (1 : Int32)]) (pc' := 26) kX4_maps_25 rfl trivial rfl ?_
            refine Gx_goto (off := 4) (tgt := 30) (by decide +kernel) (by decide) ?_
            refine Gx_mask [true, true, false] (L' := [some (.ref 50), some (.int a1), none]) rfl ?_
            exact tX4_maps_30  hk2 M19 a1 (1 : Int32) h
def wX4_maps (M : xM) (Q : xM → Prop) : Prop :=
    (∃ n : Nat, lX4_maps_2  Q n M (0 : Int32))
set_option maxHeartbeats 4000000 in
set_option maxRecDepth 100000 in
theorem tX4_maps {l : Launch} {E : xE} {M : xM} {Q : xM → Prop} (h : wX4_maps M  Q) : Ct l E mX4_maps [.ref 50] M (xRv Q) := by
  refine Ct_of (by decide +kernel) rfl (Nat.le_of_ble_eq_true rfl) ?_
  unfold wX4_maps at h
  show Gx l E mX4_maps (xRv Q) 0 M [some (.ref 50), none, none] []
  refine Gx_run (es := eX4_maps_0) (P := []) (M' := M) (L' := [some (.ref 50), some (.int (0 : Int32)), none]) (st' := []) (pc' := 2) kX4_maps_0 rfl trivial rfl ?_
  refine Gx_mask [true, true, false] (L' := [some (.ref 50), some (.int (0 : Int32)), none]) rfl ?_
  obtain ⟨n, h⟩ := h
  exact tX4_maps_2  n M (0 : Int32) h
