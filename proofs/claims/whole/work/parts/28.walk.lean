/-! walks: X3_carryOut, X3_check, X3_judge, X3_largest, X3_leftWithout, X3_loses, X3_lots -/
def eX3_carryOut_0 : List xI := [(.aload_n 0, 1, 0, 0, 0), (.getfield 43, 3, 3, 7, 0), (.iload_n 1, 1, 0, 0, 0), (.iconst 1, 1, 0, 0, (1)), (.iadd, 1, 0, 0, 0)]
theorem kX3_carryOut_0 : xcode (xmb mX3_carryOut) (xmo mX3_carryOut) 0 eX3_carryOut_0 = true := by decide +kernel
def eX3_carryOut_10 : List xI := [(.istore_n 2, 1, 0, 0, 0), (.aload_n 0, 1, 0, 0, 0), (.getfield 43, 3, 3, 7, 0), (.iload_n 1, 1, 0, 0, 0), (.iconst 2, 1, 0, 0, (2)), (.iadd, 1, 0, 0, 0)]
theorem kX3_carryOut_10 : xcode (xmb mX3_carryOut) (xmo mX3_carryOut) 10 eX3_carryOut_10 = true := by decide +kernel
def eX3_carryOut_21 : List xI := [(.istore_n 3, 1, 0, 0, 0), (.aload_n 0, 1, 0, 0, 0), (.getfield 43, 3, 3, 7, 0), (.iload_n 1, 1, 0, 0, 0), (.iconst 1, 1, 0, 0, (1)), (.iadd, 1, 0, 0, 0)]
theorem kX3_carryOut_21 : xcode (xmb mX3_carryOut) (xmo mX3_carryOut) 21 eX3_carryOut_21 = true := by decide +kernel
def eX3_carryOut_32 : List xI := [(.istore 4, 2, 0, 0, 0), (.aload_n 0, 1, 0, 0, 0), (.getfield 43, 3, 3, 7, 0), (.iload_n 1, 1, 0, 0, 0)]
theorem kX3_carryOut_32 : xcode (xmb mX3_carryOut) (xmo mX3_carryOut) 32 eX3_carryOut_32 = true := by decide +kernel
def eX3_carryOut_281 : List xI := [(.aload_n 0, 1, 0, 0, 0), (.getfield 10, 3, 3, 0, 0), (.getfield 115, 3, 2, 5, 0), (.iload 4, 2, 0, 0, 0), (.aload_n 0, 1, 0, 0, 0), (.getfield 43, 3, 3, 7, 0), (.iload_n 1, 1, 0, 0, 0), (.iconst 3, 1, 0, 0, (3)), (.iadd, 1, 0, 0, 0)]
theorem kX3_carryOut_281 : xcode (xmb mX3_carryOut) (xmo mX3_carryOut) 281 eX3_carryOut_281 = true := by decide +kernel
def eX3_carryOut_300 : List xI := [(.iastore, 1, 0, 0, 0)]
theorem kX3_carryOut_300 : xcode (xmb mX3_carryOut) (xmo mX3_carryOut) 300 eX3_carryOut_300 = true := by decide +kernel
def eX3_carryOut_230 : List xI := [(.aload_n 0, 1, 0, 0, 0), (.getfield 10, 3, 3, 0, 0), (.iload_n 2, 1, 0, 0, 0), (.iload_n 3, 1, 0, 0, 0), (.aload_n 0, 1, 0, 0, 0), (.getfield 43, 3, 3, 7, 0), (.iload_n 1, 1, 0, 0, 0), (.iconst 3, 1, 0, 0, (3)), (.iadd, 1, 0, 0, 0)]
theorem kX3_carryOut_230 : xcode (xmb mX3_carryOut) (xmo mX3_carryOut) 230 eX3_carryOut_230 = true := by decide +kernel
def eX3_carryOut_246 : List xI := [(.aload_n 0, 1, 0, 0, 0), (.getfield 43, 3, 3, 7, 0), (.iload_n 1, 1, 0, 0, 0), (.iconst 4, 1, 0, 0, (4)), (.iadd, 1, 0, 0, 0)]
theorem kX3_carryOut_246 : xcode (xmb mX3_carryOut) (xmo mX3_carryOut) 246 eX3_carryOut_246 = true := by decide +kernel
def eX3_carryOut_148 : List xI := [(.aload_n 0, 1, 0, 0, 0), (.getfield 10, 3, 3, 0, 0), (.getfield 88, 3, 2, 0, 0), (.iload_n 2, 1, 0, 0, 0), (.aload_n 0, 1, 0, 0, 0), (.getfield 43, 3, 3, 7, 0), (.iload_n 1, 1, 0, 0, 0), (.iconst 2, 1, 0, 0, (2)), (.iadd, 1, 0, 0, 0)]
theorem kX3_carryOut_148 : xcode (xmb mX3_carryOut) (xmo mX3_carryOut) 148 eX3_carryOut_148 = true := by decide +kernel
def eX3_carryOut_166 : List xI := [(.iastore, 1, 0, 0, 0), (.aload_n 0, 1, 0, 0, 0), (.getfield 10, 3, 3, 0, 0), (.getfield 91, 3, 2, 1, 0), (.iload_n 2, 1, 0, 0, 0), (.aload_n 0, 1, 0, 0, 0), (.getfield 43, 3, 3, 7, 0), (.iload_n 1, 1, 0, 0, 0), (.iconst 3, 1, 0, 0, (3)), (.iadd, 1, 0, 0, 0)]
theorem kX3_carryOut_166 : xcode (xmb mX3_carryOut) (xmo mX3_carryOut) 166 eX3_carryOut_166 = true := by decide +kernel
def eX3_carryOut_185 : List xI := [(.iastore, 1, 0, 0, 0), (.aload_n 0, 1, 0, 0, 0), (.getfield 10, 3, 3, 0, 0), (.getfield 94, 3, 2, 2, 0), (.iload_n 2, 1, 0, 0, 0), (.aload_n 0, 1, 0, 0, 0), (.getfield 43, 3, 3, 7, 0), (.iload_n 1, 1, 0, 0, 0), (.iconst 4, 1, 0, 0, (4)), (.iadd, 1, 0, 0, 0)]
theorem kX3_carryOut_185 : xcode (xmb mX3_carryOut) (xmo mX3_carryOut) 185 eX3_carryOut_185 = true := by decide +kernel
def eX3_carryOut_204 : List xI := [(.iastore, 1, 0, 0, 0)]
theorem kX3_carryOut_204 : xcode (xmb mX3_carryOut) (xmo mX3_carryOut) 204 eX3_carryOut_204 = true := by decide +kernel
def eX3_carryOut_304 : List xI := [(.aload_n 0, 1, 0, 0, 0), (.getfield 10, 3, 3, 0, 0), (.dup, 1, 0, 0, 0), (.getfield 118, 3, 2, 6, 0), (.iconst 1, 1, 0, 0, (1)), (.iload 4, 2, 0, 0, 0), (.ishl, 1, 0, 0, 0), (.ixor, 1, 0, 0, 0), (.putfield 118, 3, 2, 6, 0)]
theorem kX3_carryOut_304 : xcode (xmb mX3_carryOut) (xmo mX3_carryOut) 304 eX3_carryOut_304 = true := by decide +kernel
def eX3_carryOut_208 : List xI := [(.aload_n 0, 1, 0, 0, 0), (.getfield 10, 3, 3, 0, 0), (.iload_n 2, 1, 0, 0, 0), (.iload_n 3, 1, 0, 0, 0), (.aload_n 0, 1, 0, 0, 0), (.getfield 43, 3, 3, 7, 0), (.iload_n 1, 1, 0, 0, 0), (.iconst 3, 1, 0, 0, (3)), (.iadd, 1, 0, 0, 0)]
theorem kX3_carryOut_208 : xcode (xmb mX3_carryOut) (xmo mX3_carryOut) 208 eX3_carryOut_208 = true := by decide +kernel
def eX3_carryOut_323 : List xI := [(.aload_n 0, 1, 0, 0, 0), (.getfield 10, 3, 3, 0, 0), (.dup, 1, 0, 0, 0), (.getfield 97, 3, 2, 7, 0), (.iconst 1, 1, 0, 0, (1)), (.iload_n 2, 1, 0, 0, 0), (.ishl, 1, 0, 0, 0), (.ixor, 1, 0, 0, 0), (.putfield 97, 3, 2, 7, 0)]
theorem kX3_carryOut_323 : xcode (xmb mX3_carryOut) (xmo mX3_carryOut) 323 eX3_carryOut_323 = true := by decide +kernel
def eX3_carryOut_262 : List xI := [(.aload_n 0, 1, 0, 0, 0), (.getfield 10, 3, 3, 0, 0), (.getfield 112, 3, 2, 4, 0), (.bipush 6, 2, 0, 0, (6)), (.iload_n 2, 1, 0, 0, 0), (.imul, 1, 0, 0, 0), (.iload_n 3, 1, 0, 0, 0), (.iadd, 1, 0, 0, 0), (.bipush (-9), 2, 0, 0, (-9)), (.iastore, 1, 0, 0, 0)]
theorem kX3_carryOut_262 : xcode (xmb mX3_carryOut) (xmo mX3_carryOut) 262 eX3_carryOut_262 = true := by decide +kernel
def eX3_carryOut_341 : List xI := [(.aload_n 0, 1, 0, 0, 0), (.getfield 33, 3, 3, 5, 0), (.aload_n 0, 1, 0, 0, 0), (.getfield 10, 3, 3, 0, 0), (.aload_n 0, 1, 0, 0, 0), (.getfield 57, 3, 3, 11, 0)]
theorem kX3_carryOut_341 : xcode (xmb mX3_carryOut) (xmo mX3_carryOut) 341 eX3_carryOut_341 = true := by decide +kernel
def eX3_carryOut_356 : List xI := [(.aload_n 0, 1, 0, 0, 0), (.getfield 10, 3, 3, 0, 0), (.aload_n 0, 1, 0, 0, 0), (.getfield 33, 3, 3, 5, 0), (.getfield 137, 3, 0, 0, 0)]
theorem kX3_carryOut_356 : xcode (xmb mX3_carryOut) (xmo mX3_carryOut) 356 eX3_carryOut_356 = true := by decide +kernel
def wX3_carryOut_370 (p1 : Int32) (Q : xM → Prop) (M : xM) : Prop :=
    Q M
set_option maxHeartbeats 4000000 in
set_option maxRecDepth 100000 in
theorem tX3_carryOut_370 {l : Launch} {E : xE} {p1 : Int32} {Q : xM → Prop} (M : xM) (h : wX3_carryOut_370 p1 Q M ) : Gx l E mX3_carryOut (xRv Q) 370 M [none, none, none, none, none] [] := by
  unfold wX3_carryOut_370 at h
  exact Gx_vret (by decide +kernel) rfl ⟨rfl, h⟩
def wX3_carryOut (M : xM) (p1 : Int32) (Q : xM → Prop) : Prop :=
    wX1_digitAt M (p1 + (1 : Int32)) (fun r7 M7 => wX1_digitAt M7 (p1 + (2 : Int32)) (fun r18 M18 => wX1_pairAt M18 (p1 + (1 : Int32)) (fun r29 M29 => wX1_signAt M29 p1 (fun r39 M39 => (((r39 = (98 : Int32)) → (wX1_pairAt M39 (p1 + (3 : Int32)) (fun r297 M297 => (vp_in r29 24) ∧ wX3_carryOut_370 p1 Q (xup M297 7 r29.toNatClampNeg r297)))) ∧ ((¬ r39 = (98 : Int32)) → (((r39 = (101 : Int32)) → (wX1_nameAt M39 (p1 + (3 : Int32)) (fun r243 M243 => wX1_digitAt M243 (p1 + (4 : Int32)) (fun r253 M253 => wX2_enter M253 1 r7 r18 r243 r253 (fun M256 => wX3_carryOut_370 p1 Q M256))))) ∧ ((¬ r39 = (101 : Int32)) → (((r39 = (105 : Int32)) → (wX1_kindAt M39 (p1 + (2 : Int32)) (fun r163 M163 => (vp_in r7 10) ∧ wX1_digitAt (xup M163 2 r7.toNatClampNeg r163) (p1 + (3 : Int32)) (fun r182 M182 => (vp_in r7 10) ∧ wX1_digitAt (xup M182 3 r7.toNatClampNeg r182) (p1 + (4 : Int32)) (fun r201 M201 => (vp_in r7 10) ∧ wX3_carryOut_370 p1 Q (xup M201 4 r7.toNatClampNeg r201)))))) ∧ ((¬ r39 = (105 : Int32)) → (((r39 = (109 : Int32)) → (wX3_carryOut_370 p1 Q (xup M39 1 6 ((M39 1 6) ^^^ ((1 : Int32) <<< (r29 &&& 31)))))) ∧ ((¬ r39 = (109 : Int32)) → (((r39 = (112 : Int32)) → (wX1_pairAt M39 (p1 + (3 : Int32)) (fun r221 M221 => wX2_pointAt M221 1 r7 r18 r221 (fun M224 => wX3_carryOut_370 p1 Q M224)))) ∧ ((¬ r39 = (112 : Int32)) → (((r39 = (117 : Int32)) → (wX3_carryOut_370 p1 Q (xup M39 1 7 ((M39 1 7) ^^^ ((1 : Int32) <<< (r7 &&& 31)))))) ∧ ((¬ r39 = (117 : Int32)) → (((r39 = (120 : Int32)) → ((vp_in (((6 : Int32) * r7) + r18) 60) ∧ wX3_carryOut_370 p1 Q (xup M39 6 (((6 : Int32) * r7) + r18).toNatClampNeg (-9 : Int32)))) ∧ ((¬ r39 = (120 : Int32)) → (wX0_run M39 22 1 (M39 0 11) (fun M353 => wX2_takeFrom M353 1 23 (fun M367 => wX3_carryOut_370 p1 Q M367)))))))))))))))))))))
set_option maxHeartbeats 4000000 in
set_option maxRecDepth 100000 in
theorem tX3_carryOut {l : Launch} {E : xE} {M : xM} {p1 : Int32} {Q : xM → Prop} (h : wX3_carryOut M p1 Q) : Ct l E mX3_carryOut [.ref 0, .int p1] M (xRv Q) := by
  refine Ct_of (by decide +kernel) rfl (Nat.le_of_ble_eq_true rfl) ?_
  unfold wX3_carryOut at h
  show Gx l E mX3_carryOut (xRv Q) 0 M [some (.ref 0), some (.int p1), none, none, none] []
  refine Gx_run (es := eX3_carryOut_0) (P := [xkd 0 = 3]) (M' := M) (L' := [some (.ref 0), some (.int p1), none, none, none]) (st' := [.int (p1 + (1 : Int32)), .ref 46]) (pc' := 7) kX3_carryOut_0 rfl ⟨rfl, trivial⟩ rfl ?_
  refine Gx_callV (As := [.int (p1 + (1 : Int32))]) (by decide +kernel) ml_3_224 okX1_digitAt mvX1_digitAt rfl (by decide) (Nat.le_of_ble_eq_true rfl) rfl rfl rfl (tX1_digitAt h) (fun rr M7 qq => ?_)
  obtain ⟨r7, rfl, h⟩ := qq
  show Gx l E mX3_carryOut _ 10 M7 [some (.ref 0), some (.int p1), none, none, none] [.int r7]
  refine Gx_run (es := eX3_carryOut_10) (P := [xkd 0 = 3]) (M' := M7) (L' := [some (.ref 0), some (.int p1), some (.int r7), none, none]) (st' := [.int (p1 + (2 : Int32)), .ref 46]) (pc' := 18) kX3_carryOut_10 rfl ⟨rfl, trivial⟩ rfl ?_
  refine Gx_callV (As := [.int (p1 + (2 : Int32))]) (by decide +kernel) ml_3_224 okX1_digitAt mvX1_digitAt rfl (by decide) (Nat.le_of_ble_eq_true rfl) rfl rfl rfl (tX1_digitAt h) (fun rr M18 qq => ?_)
  obtain ⟨r18, rfl, h⟩ := qq
  show Gx l E mX3_carryOut _ 21 M18 [some (.ref 0), some (.int p1), some (.int r7), none, none] [.int r18]
  refine Gx_run (es := eX3_carryOut_21) (P := [xkd 0 = 3]) (M' := M18) (L' := [some (.ref 0), some (.int p1), some (.int r7), some (.int r18), none]) (st' := [.int (p1 + (1 : Int32)), .ref 46]) (pc' := 29) kX3_carryOut_21 rfl ⟨rfl, trivial⟩ rfl ?_
  refine Gx_callV (As := [.int (p1 + (1 : Int32))]) (by decide +kernel) ml_3_227 okX1_pairAt mvX1_pairAt rfl (by decide) (Nat.le_of_ble_eq_true rfl) rfl rfl rfl (tX1_pairAt h) (fun rr M29 qq => ?_)
  obtain ⟨r29, rfl, h⟩ := qq
  show Gx l E mX3_carryOut _ 32 M29 [some (.ref 0), some (.int p1), some (.int r7), some (.int r18), none] [.int r29]
  refine Gx_run (es := eX3_carryOut_32) (P := [xkd 0 = 3]) (M' := M29) (L' := [some (.ref 0), some (.int p1), some (.int r7), some (.int r18), some (.int r29)]) (st' := [.int p1, .ref 46]) (pc' := 39) kX3_carryOut_32 rfl ⟨rfl, trivial⟩ rfl ?_
  refine Gx_callV (As := [.int p1]) (by decide +kernel) ml_3_230 okX1_signAt mvX1_signAt rfl (by decide) (Nat.le_of_ble_eq_true rfl) rfl rfl rfl (tX1_signAt h) (fun rr M39 qq => ?_)
  obtain ⟨r39, rfl, h⟩ := qq
  show Gx l E mX3_carryOut _ 42 M39 [some (.ref 0), some (.int p1), some (.int r7), some (.int r18), some (.int r29)] [.int r39]
  by_cases z98 : r39 = (98 : Int32)
  · have h := h.1 z98
    refine Gx_tabAt (dflt := 299) (lo := 98) (hi := 120) (offs := #[239, 299, 299, 188, 299, 299, 299, 106, 299, 299, 299, 262, 299, 299, 166, 299, 299, 299, 299, 281, 299, 299, 220]) (len := 106) z98 (by decide +kernel) (by decide) (by decide) (off := 239) (tgt := 281) rfl (by decide) ?_
    refine Gx_run (es := eX3_carryOut_281) (P := [xkd 0 = 3, xkd 1 = 2, xkd 0 = 3]) (M' := M39) (L' := [some (.ref 0), some (.int p1), some (.int r7), some (.int r18), some (.int r29)]) (st' := [.int (p1 + (3 : Int32)), .ref 46, .int r29, .ref 7]) (pc' := 297) kX3_carryOut_281 rfl ⟨rfl, rfl, rfl, trivial⟩ rfl ?_
    refine Gx_callV (As := [.int (p1 + (3 : Int32))]) (by decide +kernel) ml_3_227 okX1_pairAt mvX1_pairAt rfl (by decide) (Nat.le_of_ble_eq_true rfl) rfl rfl rfl (tX1_pairAt h) (fun rr M297 qq => ?_)
    obtain ⟨r297, rfl, h⟩ := qq
    show Gx l E mX3_carryOut _ 300 M297 [some (.ref 0), some (.int p1), some (.int r7), some (.int r18), some (.int r29)] [.int r297, .int r29, .ref 7]
    obtain ⟨g300_0, h⟩ := h
    refine Gx_run (es := eX3_carryOut_300) (P := [xkd 7 = 5, vp_in r29 (xln 7)]) (M' := (xup M297 7 r29.toNatClampNeg r297)) (L' := [some (.ref 0), some (.int p1), some (.int r7), some (.int r18), some (.int r29)]) (st' := []) (pc' := 301) kX3_carryOut_300 rfl ⟨rfl, g300_0, trivial⟩ rfl ?_
    refine Gx_goto (off := 69) (tgt := 370) (by decide +kernel) (by decide) ?_
    refine Gx_mask [false, false, false, false, false] (L' := [none, none, none, none, none]) rfl ?_
    exact tX3_carryOut_370  (xup M297 7 r29.toNatClampNeg r297) h
  replace h := h.2 z98
  by_cases z101 : r39 = (101 : Int32)
  · have h := h.1 z101
    refine Gx_tabAt (dflt := 299) (lo := 98) (hi := 120) (offs := #[239, 299, 299, 188, 299, 299, 299, 106, 299, 299, 299, 262, 299, 299, 166, 299, 299, 299, 299, 281, 299, 299, 220]) (len := 106) z101 (by decide +kernel) (by decide) (by decide) (off := 188) (tgt := 230) rfl (by decide) ?_
    refine Gx_run (es := eX3_carryOut_230) (P := [xkd 0 = 3, xkd 0 = 3]) (M' := M39) (L' := [some (.ref 0), some (.int p1), some (.int r7), some (.int r18), some (.int r29)]) (st' := [.int (p1 + (3 : Int32)), .ref 46, .int r18, .int r7, .ref 1]) (pc' := 243) kX3_carryOut_230 rfl ⟨rfl, rfl, trivial⟩ rfl ?_
    refine Gx_callV (As := [.int (p1 + (3 : Int32))]) (by decide +kernel) ml_3_236 okX1_nameAt mvX1_nameAt rfl (by decide) (Nat.le_of_ble_eq_true rfl) rfl rfl rfl (tX1_nameAt h) (fun rr M243 qq => ?_)
    obtain ⟨r243, rfl, h⟩ := qq
    show Gx l E mX3_carryOut _ 246 M243 [some (.ref 0), some (.int p1), some (.int r7), some (.int r18), some (.int r29)] [.int r243, .int r18, .int r7, .ref 1]
    refine Gx_run (es := eX3_carryOut_246) (P := [xkd 0 = 3]) (M' := M243) (L' := [some (.ref 0), some (.int p1), some (.int r7), some (.int r18), some (.int r29)]) (st' := [.int (p1 + (4 : Int32)), .ref 46, .int r243, .int r18, .int r7, .ref 1]) (pc' := 253) kX3_carryOut_246 rfl ⟨rfl, trivial⟩ rfl ?_
    refine Gx_callV (As := [.int (p1 + (4 : Int32))]) (by decide +kernel) ml_3_224 okX1_digitAt mvX1_digitAt rfl (by decide) (Nat.le_of_ble_eq_true rfl) rfl rfl rfl (tX1_digitAt h) (fun rr M253 qq => ?_)
    obtain ⟨r253, rfl, h⟩ := qq
    show Gx l E mX3_carryOut _ 256 M253 [some (.ref 0), some (.int p1), some (.int r7), some (.int r18), some (.int r29)] [.int r253, .int r243, .int r18, .int r7, .ref 1]
    refine Gx_callV (As := [.int r7, .int r18, .int r243, .int r253]) (by decide +kernel) ml_3_128 okX2_enter mvX2_enter rfl (by decide) (Nat.le_of_ble_eq_true rfl) rfl rfl rfl (tX2_enter xVol_at1 h) (fun rr M256 qq => ?_)
    obtain ⟨rfl, h⟩ := qq
    show Gx l E mX3_carryOut _ 259 M256 [some (.ref 0), some (.int p1), some (.int r7), some (.int r18), some (.int r29)] []
    refine Gx_goto (off := 111) (tgt := 370) (by decide +kernel) (by decide) ?_
    refine Gx_mask [false, false, false, false, false] (L' := [none, none, none, none, none]) rfl ?_
    exact tX3_carryOut_370  M256 h
  replace h := h.2 z101
  by_cases z105 : r39 = (105 : Int32)
  · have h := h.1 z105
    refine Gx_tabAt (dflt := 299) (lo := 98) (hi := 120) (offs := #[239, 299, 299, 188, 299, 299, 299, 106, 299, 299, 299, 262, 299, 299, 166, 299, 299, 299, 299, 281, 299, 299, 220]) (len := 106) z105 (by decide +kernel) (by decide) (by decide) (off := 106) (tgt := 148) rfl (by decide) ?_
    refine Gx_run (es := eX3_carryOut_148) (P := [xkd 0 = 3, xkd 1 = 2, xkd 0 = 3]) (M' := M39) (L' := [some (.ref 0), some (.int p1), some (.int r7), some (.int r18), some (.int r29)]) (st' := [.int (p1 + (2 : Int32)), .ref 46, .int r7, .ref 2]) (pc' := 163) kX3_carryOut_148 rfl ⟨rfl, rfl, rfl, trivial⟩ rfl ?_
    refine Gx_callV (As := [.int (p1 + (2 : Int32))]) (by decide +kernel) ml_3_233 okX1_kindAt mvX1_kindAt rfl (by decide) (Nat.le_of_ble_eq_true rfl) rfl rfl rfl (tX1_kindAt h) (fun rr M163 qq => ?_)
    obtain ⟨r163, rfl, h⟩ := qq
    show Gx l E mX3_carryOut _ 166 M163 [some (.ref 0), some (.int p1), some (.int r7), some (.int r18), some (.int r29)] [.int r163, .int r7, .ref 2]
    obtain ⟨g166_0, h⟩ := h
    refine Gx_run (es := eX3_carryOut_166) (P := [xkd 2 = 5, vp_in r7 (xln 2), xkd 0 = 3, xkd 1 = 2, xkd 0 = 3]) (M' := (xup M163 2 r7.toNatClampNeg r163)) (L' := [some (.ref 0), some (.int p1), some (.int r7), some (.int r18), some (.int r29)]) (st' := [.int (p1 + (3 : Int32)), .ref 46, .int r7, .ref 3]) (pc' := 182) kX3_carryOut_166 rfl ⟨rfl, g166_0, rfl, rfl, rfl, trivial⟩ rfl ?_
    refine Gx_callV (As := [.int (p1 + (3 : Int32))]) (by decide +kernel) ml_3_224 okX1_digitAt mvX1_digitAt rfl (by decide) (Nat.le_of_ble_eq_true rfl) rfl rfl rfl (tX1_digitAt h) (fun rr M182 qq => ?_)
    obtain ⟨r182, rfl, h⟩ := qq
    show Gx l E mX3_carryOut _ 185 M182 [some (.ref 0), some (.int p1), some (.int r7), some (.int r18), some (.int r29)] [.int r182, .int r7, .ref 3]
    obtain ⟨g185_0, h⟩ := h
    refine Gx_run (es := eX3_carryOut_185) (P := [xkd 3 = 5, vp_in r7 (xln 3), xkd 0 = 3, xkd 1 = 2, xkd 0 = 3]) (M' := (xup M182 3 r7.toNatClampNeg r182)) (L' := [some (.ref 0), some (.int p1), some (.int r7), some (.int r18), some (.int r29)]) (st' := [.int (p1 + (4 : Int32)), .ref 46, .int r7, .ref 4]) (pc' := 201) kX3_carryOut_185 rfl ⟨rfl, g185_0, rfl, rfl, rfl, trivial⟩ rfl ?_
    refine Gx_callV (As := [.int (p1 + (4 : Int32))]) (by decide +kernel) ml_3_224 okX1_digitAt mvX1_digitAt rfl (by decide) (Nat.le_of_ble_eq_true rfl) rfl rfl rfl (tX1_digitAt h) (fun rr M201 qq => ?_)
    obtain ⟨r201, rfl, h⟩ := qq
    show Gx l E mX3_carryOut _ 204 M201 [some (.ref 0), some (.int p1), some (.int r7), some (.int r18), some (.int r29)] [.int r201, .int r7, .ref 4]
    obtain ⟨g204_0, h⟩ := h
    refine Gx_run (es := eX3_carryOut_204) (P := [xkd 4 = 5, vp_in r7 (xln 4)]) (M' := (xup M201 4 r7.toNatClampNeg r201)) (L' := [some (.ref 0), some (.int p1), some (.int r7), some (.int r18), some (.int r29)]) (st' := []) (pc' := 205) kX3_carryOut_204 rfl ⟨rfl, g204_0, trivial⟩ rfl ?_
    refine Gx_goto (off := 165) (tgt := 370) (by decide +kernel) (by decide) ?_
    refine Gx_mask [false, false, false, false, false] (L' := [none, none, none, none, none]) rfl ?_
    exact tX3_carryOut_370  (xup M201 4 r7.toNatClampNeg r201) h
  replace h := h.2 z105
  by_cases z109 : r39 = (109 : Int32)
  · have h := h.1 z109
    refine Gx_tabAt (dflt := 299) (lo := 98) (hi := 120) (offs := #[239, 299, 299, 188, 299, 299, 299, 106, 299, 299, 299, 262, 299, 299, 166, 299, 299, 299, 299, 281, 299, 299, 220]) (len := 106) z109 (by decide +kernel) (by decide) (by decide) (off := 262) (tgt := 304) rfl (by decide) ?_
    refine Gx_run (es := eX3_carryOut_304) (P := [xkd 0 = 3, xkd 1 = 2, xkd 1 = 2]) (M' := (xup M39 1 6 ((M39 1 6) ^^^ ((1 : Int32) <<< (r29 &&& 31))))) (L' := [some (.ref 0), some (.int p1), some (.int r7), some (.int r18), some (.int r29)]) (st' := []) (pc' := 320) kX3_carryOut_304 rfl ⟨rfl, rfl, rfl, trivial⟩ rfl ?_
    refine Gx_goto (off := 50) (tgt := 370) (by decide +kernel) (by decide) ?_
    refine Gx_mask [false, false, false, false, false] (L' := [none, none, none, none, none]) rfl ?_
    exact tX3_carryOut_370  (xup M39 1 6 ((M39 1 6) ^^^ ((1 : Int32) <<< (r29 &&& 31)))) h
  replace h := h.2 z109
  by_cases z112 : r39 = (112 : Int32)
  · have h := h.1 z112
    refine Gx_tabAt (dflt := 299) (lo := 98) (hi := 120) (offs := #[239, 299, 299, 188, 299, 299, 299, 106, 299, 299, 299, 262, 299, 299, 166, 299, 299, 299, 299, 281, 299, 299, 220]) (len := 106) z112 (by decide +kernel) (by decide) (by decide) (off := 166) (tgt := 208) rfl (by decide) ?_
    refine Gx_run (es := eX3_carryOut_208) (P := [xkd 0 = 3, xkd 0 = 3]) (M' := M39) (L' := [some (.ref 0), some (.int p1), some (.int r7), some (.int r18), some (.int r29)]) (st' := [.int (p1 + (3 : Int32)), .ref 46, .int r18, .int r7, .ref 1]) (pc' := 221) kX3_carryOut_208 rfl ⟨rfl, rfl, trivial⟩ rfl ?_
    refine Gx_callV (As := [.int (p1 + (3 : Int32))]) (by decide +kernel) ml_3_227 okX1_pairAt mvX1_pairAt rfl (by decide) (Nat.le_of_ble_eq_true rfl) rfl rfl rfl (tX1_pairAt h) (fun rr M221 qq => ?_)
    obtain ⟨r221, rfl, h⟩ := qq
    show Gx l E mX3_carryOut _ 224 M221 [some (.ref 0), some (.int p1), some (.int r7), some (.int r18), some (.int r29)] [.int r221, .int r18, .int r7, .ref 1]
    refine Gx_callV (As := [.int r7, .int r18, .int r221]) (by decide +kernel) ml_3_124 okX2_pointAt mvX2_pointAt rfl (by decide) (Nat.le_of_ble_eq_true rfl) rfl rfl rfl (tX2_pointAt xVol_at1 h) (fun rr M224 qq => ?_)
    obtain ⟨rfl, h⟩ := qq
    show Gx l E mX3_carryOut _ 227 M224 [some (.ref 0), some (.int p1), some (.int r7), some (.int r18), some (.int r29)] []
    refine Gx_goto (off := 143) (tgt := 370) (by decide +kernel) (by decide) ?_
    refine Gx_mask [false, false, false, false, false] (L' := [none, none, none, none, none]) rfl ?_
    exact tX3_carryOut_370  M224 h
  replace h := h.2 z112
  by_cases z117 : r39 = (117 : Int32)
  · have h := h.1 z117
    refine Gx_tabAt (dflt := 299) (lo := 98) (hi := 120) (offs := #[239, 299, 299, 188, 299, 299, 299, 106, 299, 299, 299, 262, 299, 299, 166, 299, 299, 299, 299, 281, 299, 299, 220]) (len := 106) z117 (by decide +kernel) (by decide) (by decide) (off := 281) (tgt := 323) rfl (by decide) ?_
    refine Gx_run (es := eX3_carryOut_323) (P := [xkd 0 = 3, xkd 1 = 2, xkd 1 = 2]) (M' := (xup M39 1 7 ((M39 1 7) ^^^ ((1 : Int32) <<< (r7 &&& 31))))) (L' := [some (.ref 0), some (.int p1), some (.int r7), some (.int r18), some (.int r29)]) (st' := []) (pc' := 338) kX3_carryOut_323 rfl ⟨rfl, rfl, rfl, trivial⟩ rfl ?_
    refine Gx_goto (off := 32) (tgt := 370) (by decide +kernel) (by decide) ?_
    refine Gx_mask [false, false, false, false, false] (L' := [none, none, none, none, none]) rfl ?_
    exact tX3_carryOut_370  (xup M39 1 7 ((M39 1 7) ^^^ ((1 : Int32) <<< (r7 &&& 31)))) h
  replace h := h.2 z117
  by_cases z120 : r39 = (120 : Int32)
  · have h := h.1 z120
    refine Gx_tabAt (dflt := 299) (lo := 98) (hi := 120) (offs := #[239, 299, 299, 188, 299, 299, 299, 106, 299, 299, 299, 262, 299, 299, 166, 299, 299, 299, 299, 281, 299, 299, 220]) (len := 106) z120 (by decide +kernel) (by decide) (by decide) (off := 220) (tgt := 262) rfl (by decide) ?_
    obtain ⟨g262_0, h⟩ := h
    refine Gx_run (es := eX3_carryOut_262) (P := [xkd 0 = 3, xkd 1 = 2, xkd 6 = 5, vp_in (((6 : Int32) * r7) + r18) (xln 6)]) (M' := (xup M39 6 (((6 : Int32) * r7) + r18).toNatClampNeg (-9 : Int32))) (L' := [some (.ref 0), some (.int p1), some (.int r7), some (.int r18), some (.int r29)]) (st' := []) (pc' := 278) kX3_carryOut_262 rfl ⟨rfl, rfl, rfl, g262_0, trivial⟩ rfl ?_
    refine Gx_goto (off := 92) (tgt := 370) (by decide +kernel) (by decide) ?_
    refine Gx_mask [false, false, false, false, false] (L' := [none, none, none, none, none]) rfl ?_
    exact tX3_carryOut_370  (xup M39 6 (((6 : Int32) * r7) + r18).toNatClampNeg (-9 : Int32)) h
  replace h := h.2 z120
  suffices hk : Gx l E mX3_carryOut _ 341 M39 [some (.ref 0), some (.int p1), some (.int r7), some (.int r18), some (.int r29)] [] by
    by_cases z99 : r39 = (99 : Int32)
    · exact Gx_tabAt (dflt := 299) (lo := 98) (hi := 120) (offs := #[239, 299, 299, 188, 299, 299, 299, 106, 299, 299, 299, 262, 299, 299, 166, 299, 299, 299, 299, 281, 299, 299, 220]) (len := 106) z99 (by decide +kernel) (by decide) (by decide) (off := 299) (tgt := 341) rfl (by decide) hk
    by_cases z100 : r39 = (100 : Int32)
    · exact Gx_tabAt (dflt := 299) (lo := 98) (hi := 120) (offs := #[239, 299, 299, 188, 299, 299, 299, 106, 299, 299, 299, 262, 299, 299, 166, 299, 299, 299, 299, 281, 299, 299, 220]) (len := 106) z100 (by decide +kernel) (by decide) (by decide) (off := 299) (tgt := 341) rfl (by decide) hk
    by_cases z102 : r39 = (102 : Int32)
    · exact Gx_tabAt (dflt := 299) (lo := 98) (hi := 120) (offs := #[239, 299, 299, 188, 299, 299, 299, 106, 299, 299, 299, 262, 299, 299, 166, 299, 299, 299, 299, 281, 299, 299, 220]) (len := 106) z102 (by decide +kernel) (by decide) (by decide) (off := 299) (tgt := 341) rfl (by decide) hk
    by_cases z103 : r39 = (103 : Int32)
    · exact Gx_tabAt (dflt := 299) (lo := 98) (hi := 120) (offs := #[239, 299, 299, 188, 299, 299, 299, 106, 299, 299, 299, 262, 299, 299, 166, 299, 299, 299, 299, 281, 299, 299, 220]) (len := 106) z103 (by decide +kernel) (by decide) (by decide) (off := 299) (tgt := 341) rfl (by decide) hk
    by_cases z104 : r39 = (104 : Int32)
    · exact Gx_tabAt (dflt := 299) (lo := 98) (hi := 120) (offs := #[239, 299, 299, 188, 299, 299, 299, 106, 299, 299, 299, 262, 299, 299, 166, 299, 299, 299, 299, 281, 299, 299, 220]) (len := 106) z104 (by decide +kernel) (by decide) (by decide) (off := 299) (tgt := 341) rfl (by decide) hk
    by_cases z106 : r39 = (106 : Int32)
    · exact Gx_tabAt (dflt := 299) (lo := 98) (hi := 120) (offs := #[239, 299, 299, 188, 299, 299, 299, 106, 299, 299, 299, 262, 299, 299, 166, 299, 299, 299, 299, 281, 299, 299, 220]) (len := 106) z106 (by decide +kernel) (by decide) (by decide) (off := 299) (tgt := 341) rfl (by decide) hk
    by_cases z107 : r39 = (107 : Int32)
    · exact Gx_tabAt (dflt := 299) (lo := 98) (hi := 120) (offs := #[239, 299, 299, 188, 299, 299, 299, 106, 299, 299, 299, 262, 299, 299, 166, 299, 299, 299, 299, 281, 299, 299, 220]) (len := 106) z107 (by decide +kernel) (by decide) (by decide) (off := 299) (tgt := 341) rfl (by decide) hk
    by_cases z108 : r39 = (108 : Int32)
    · exact Gx_tabAt (dflt := 299) (lo := 98) (hi := 120) (offs := #[239, 299, 299, 188, 299, 299, 299, 106, 299, 299, 299, 262, 299, 299, 166, 299, 299, 299, 299, 281, 299, 299, 220]) (len := 106) z108 (by decide +kernel) (by decide) (by decide) (off := 299) (tgt := 341) rfl (by decide) hk
    by_cases z110 : r39 = (110 : Int32)
    · exact Gx_tabAt (dflt := 299) (lo := 98) (hi := 120) (offs := #[239, 299, 299, 188, 299, 299, 299, 106, 299, 299, 299, 262, 299, 299, 166, 299, 299, 299, 299, 281, 299, 299, 220]) (len := 106) z110 (by decide +kernel) (by decide) (by decide) (off := 299) (tgt := 341) rfl (by decide) hk
    by_cases z111 : r39 = (111 : Int32)
    · exact Gx_tabAt (dflt := 299) (lo := 98) (hi := 120) (offs := #[239, 299, 299, 188, 299, 299, 299, 106, 299, 299, 299, 262, 299, 299, 166, 299, 299, 299, 299, 281, 299, 299, 220]) (len := 106) z111 (by decide +kernel) (by decide) (by decide) (off := 299) (tgt := 341) rfl (by decide) hk
    by_cases z113 : r39 = (113 : Int32)
    · exact Gx_tabAt (dflt := 299) (lo := 98) (hi := 120) (offs := #[239, 299, 299, 188, 299, 299, 299, 106, 299, 299, 299, 262, 299, 299, 166, 299, 299, 299, 299, 281, 299, 299, 220]) (len := 106) z113 (by decide +kernel) (by decide) (by decide) (off := 299) (tgt := 341) rfl (by decide) hk
    by_cases z114 : r39 = (114 : Int32)
    · exact Gx_tabAt (dflt := 299) (lo := 98) (hi := 120) (offs := #[239, 299, 299, 188, 299, 299, 299, 106, 299, 299, 299, 262, 299, 299, 166, 299, 299, 299, 299, 281, 299, 299, 220]) (len := 106) z114 (by decide +kernel) (by decide) (by decide) (off := 299) (tgt := 341) rfl (by decide) hk
    by_cases z115 : r39 = (115 : Int32)
    · exact Gx_tabAt (dflt := 299) (lo := 98) (hi := 120) (offs := #[239, 299, 299, 188, 299, 299, 299, 106, 299, 299, 299, 262, 299, 299, 166, 299, 299, 299, 299, 281, 299, 299, 220]) (len := 106) z115 (by decide +kernel) (by decide) (by decide) (off := 299) (tgt := 341) rfl (by decide) hk
    by_cases z116 : r39 = (116 : Int32)
    · exact Gx_tabAt (dflt := 299) (lo := 98) (hi := 120) (offs := #[239, 299, 299, 188, 299, 299, 299, 106, 299, 299, 299, 262, 299, 299, 166, 299, 299, 299, 299, 281, 299, 299, 220]) (len := 106) z116 (by decide +kernel) (by decide) (by decide) (off := 299) (tgt := 341) rfl (by decide) hk
    by_cases z118 : r39 = (118 : Int32)
    · exact Gx_tabAt (dflt := 299) (lo := 98) (hi := 120) (offs := #[239, 299, 299, 188, 299, 299, 299, 106, 299, 299, 299, 262, 299, 299, 166, 299, 299, 299, 299, 281, 299, 299, 220]) (len := 106) z118 (by decide +kernel) (by decide) (by decide) (off := 299) (tgt := 341) rfl (by decide) hk
    by_cases z119 : r39 = (119 : Int32)
    · exact Gx_tabAt (dflt := 299) (lo := 98) (hi := 120) (offs := #[239, 299, 299, 188, 299, 299, 299, 106, 299, 299, 299, 262, 299, 299, 166, 299, 299, 299, 299, 281, 299, 299, 220]) (len := 106) z119 (by decide +kernel) (by decide) (by decide) (off := 299) (tgt := 341) rfl (by decide) hk
    refine Gx_tableOut (dflt := 299) (lo := 98) (hi := 120) (offs := #[239, 299, 299, 188, 299, 299, 299, 106, 299, 299, 299, 262, 299, 299, 166, 299, 299, 299, 299, 281, 299, 299, 220]) (len := 106) (tgt := 341) (by decide +kernel) ?_ (by decide) hk
    have n98 := lv_neT (a := 98) z98 (by decide)
    have n99 := lv_neT (a := 99) z99 (by decide)
    have n100 := lv_neT (a := 100) z100 (by decide)
    have n101 := lv_neT (a := 101) z101 (by decide)
    have n102 := lv_neT (a := 102) z102 (by decide)
    have n103 := lv_neT (a := 103) z103 (by decide)
    have n104 := lv_neT (a := 104) z104 (by decide)
    have n105 := lv_neT (a := 105) z105 (by decide)
    have n106 := lv_neT (a := 106) z106 (by decide)
    have n107 := lv_neT (a := 107) z107 (by decide)
    have n108 := lv_neT (a := 108) z108 (by decide)
    have n109 := lv_neT (a := 109) z109 (by decide)
    have n110 := lv_neT (a := 110) z110 (by decide)
    have n111 := lv_neT (a := 111) z111 (by decide)
    have n112 := lv_neT (a := 112) z112 (by decide)
    have n113 := lv_neT (a := 113) z113 (by decide)
    have n114 := lv_neT (a := 114) z114 (by decide)
    have n115 := lv_neT (a := 115) z115 (by decide)
    have n116 := lv_neT (a := 116) z116 (by decide)
    have n117 := lv_neT (a := 117) z117 (by decide)
    have n118 := lv_neT (a := 118) z118 (by decide)
    have n119 := lv_neT (a := 119) z119 (by decide)
    have n120 := lv_neT (a := 120) z120 (by decide)
    omega
  refine Gx_run (es := eX3_carryOut_341) (P := [xkd 0 = 3, xkd 0 = 3, xkd 0 = 3]) (M' := M39) (L' := [some (.ref 0), some (.int p1), some (.int r7), some (.int r18), some (.int r29)]) (st' := [.int (M39 0 11), .ref 1, .ref 22]) (pc' := 353) kX3_carryOut_341 rfl ⟨rfl, rfl, rfl, trivial⟩ rfl ?_
  refine Gx_callV (As := [.ref 1, .int (M39 0 11)]) (by decide +kernel) ml_3_133 okX0_run mvX0_run rfl (by decide) (Nat.le_of_ble_eq_true rfl) rfl rfl rfl (tX0_run xChk_at22 xVol_at1 h) (fun rr M353 qq => ?_)
  obtain ⟨rfl, h⟩ := qq
  show Gx l E mX3_carryOut _ 356 M353 [some (.ref 0), some (.int p1), some (.int r7), some (.int r18), some (.int r29)] []
  refine Gx_run (es := eX3_carryOut_356) (P := [xkd 0 = 3, xkd 0 = 3, xkd 22 = 0]) (M' := M353) (L' := [some (.ref 0), some (.int p1), some (.int r7), some (.int r18), some (.int r29)]) (st' := [.ref 23, .ref 1]) (pc' := 367) kX3_carryOut_356 rfl ⟨rfl, rfl, rfl, trivial⟩ rfl ?_
  refine Gx_callV (As := [.ref 23]) (by decide +kernel) ml_3_140 okX2_takeFrom mvX2_takeFrom rfl (by decide) (Nat.le_of_ble_eq_true rfl) rfl rfl rfl (tX2_takeFrom xVol_at1 xVol_at23 h) (fun rr M367 qq => ?_)
  obtain ⟨rfl, h⟩ := qq
  show Gx l E mX3_carryOut _ 370 M367 [some (.ref 0), some (.int p1), some (.int r7), some (.int r18), some (.int r29)] []
  refine Gx_mask [false, false, false, false, false] (L' := [none, none, none, none, none]) rfl ?_
  exact tX3_carryOut_370  M367 h
def eX3_check_0 : List xI := [(.aload_n 0, 1, 0, 0, 0), (.getfield 33, 3, 3, 5, 0), (.aload_n 0, 1, 0, 0, 0), (.getfield 10, 3, 3, 0, 0), (.aload_n 0, 1, 0, 0, 0), (.getfield 57, 3, 3, 11, 0)]
theorem kX3_check_0 : xcode (xmb mX3_check) (xmo mX3_check) 0 eX3_check_0 = true := by decide +kernel
def eX3_check_15 : List xI := [(.aload_n 0, 1, 0, 0, 0), (.getfield 10, 3, 3, 0, 0), (.aload_n 0, 1, 0, 0, 0), (.getfield 33, 3, 3, 5, 0), (.getfield 137, 3, 0, 0, 0)]
theorem kX3_check_15 : xcode (xmb mX3_check) (xmo mX3_check) 15 eX3_check_15 = true := by decide +kernel
def eX3_check_29 : List xI := [(.aload_n 0, 1, 0, 0, 0), (.getfield 33, 3, 3, 5, 0), (.getfield 144, 3, 0, 4, 0)]
theorem kX3_check_29 : xcode (xmb mX3_check) (xmo mX3_check) 29 eX3_check_29 = true := by decide +kernel
def wX3_check (M : xM) (Q : Int32 → xM → Prop) : Prop :=
    wX0_run M 22 1 (M 0 11) (fun M12 => wX2_takeFrom M12 1 23 (fun M26 => Q (M26 22 4) M26))
set_option maxHeartbeats 4000000 in
set_option maxRecDepth 100000 in
theorem tX3_check {l : Launch} {E : xE} {M : xM} {Q : Int32 → xM → Prop} (h : wX3_check M  Q) : Ct l E mX3_check [.ref 0] M (xRi Q) := by
  refine Ct_of (by decide +kernel) rfl (Nat.le_of_ble_eq_true rfl) ?_
  unfold wX3_check at h
  show Gx l E mX3_check (xRi Q) 0 M [some (.ref 0)] []
  refine Gx_run (es := eX3_check_0) (P := [xkd 0 = 3, xkd 0 = 3, xkd 0 = 3]) (M' := M) (L' := [some (.ref 0)]) (st' := [.int (M 0 11), .ref 1, .ref 22]) (pc' := 12) kX3_check_0 rfl ⟨rfl, rfl, rfl, trivial⟩ rfl ?_
  refine Gx_callV (As := [.ref 1, .int (M 0 11)]) (by decide +kernel) ml_3_133 okX0_run mvX0_run rfl (by decide) (Nat.le_of_ble_eq_true rfl) rfl rfl rfl (tX0_run xChk_at22 xVol_at1 h) (fun rr M12 qq => ?_)
  obtain ⟨rfl, h⟩ := qq
  show Gx l E mX3_check _ 15 M12 [some (.ref 0)] []
  refine Gx_run (es := eX3_check_15) (P := [xkd 0 = 3, xkd 0 = 3, xkd 22 = 0]) (M' := M12) (L' := [some (.ref 0)]) (st' := [.ref 23, .ref 1]) (pc' := 26) kX3_check_15 rfl ⟨rfl, rfl, rfl, trivial⟩ rfl ?_
  refine Gx_callV (As := [.ref 23]) (by decide +kernel) ml_3_140 okX2_takeFrom mvX2_takeFrom rfl (by decide) (Nat.le_of_ble_eq_true rfl) rfl rfl rfl (tX2_takeFrom xVol_at1 xVol_at23 h) (fun rr M26 qq => ?_)
  obtain ⟨rfl, h⟩ := qq
  show Gx l E mX3_check _ 29 M26 [some (.ref 0)] []
  refine Gx_run (es := eX3_check_29) (P := [xkd 0 = 3, xkd 22 = 0]) (M' := M26) (L' := [some (.ref 0)]) (st' := [.int (M26 22 4)]) (pc' := 36) kX3_check_29 rfl ⟨rfl, rfl, trivial⟩ rfl ?_
  exact Gx_iret (by decide +kernel) rfl rfl ⟨_, rfl, h⟩
def eX3_judge_0 : List xI := [(.aload_n 0, 1, 0, 0, 0), (.getfield 33, 3, 3, 5, 0), (.aload_n 0, 1, 0, 0, 0), (.getfield 10, 3, 3, 0, 0), (.aload_n 0, 1, 0, 0, 0), (.getfield 57, 3, 3, 11, 0)]
theorem kX3_judge_0 : xcode (xmb mX3_judge) (xmo mX3_judge) 0 eX3_judge_0 = true := by decide +kernel
def eX3_judge_15 : List xI := [(.bipush (-9), 2, 0, 0, (-9)), (.istore_n 1, 1, 0, 0, 0), (.iconst 0, 1, 0, 0, (0)), (.istore_n 2, 1, 0, 0, 0)]
theorem kX3_judge_15 : xcode (xmb mX3_judge) (xmo mX3_judge) 15 eX3_judge_15 = true := by decide +kernel
def eX3_judge_20 : List xI := [(.iload_n 2, 1, 0, 0, 0), (.aload_n 0, 1, 0, 0, 0), (.getfield 51, 3, 3, 9, 0)]
theorem kX3_judge_20 : xcode (xmb mX3_judge) (xmo mX3_judge) 20 eX3_judge_20 = true := by decide +kernel
def eX3_judge_69 : List xI := [(.aload_n 0, 1, 0, 0, 0), (.iconst 0, 1, 0, 0, (0)), (.putfield 51, 3, 3, 9, 0), (.iload_n 1, 1, 0, 0, 0)]
theorem kX3_judge_69 : xcode (xmb mX3_judge) (xmo mX3_judge) 69 eX3_judge_69 = true := by decide +kernel
def eX3_judge_28 : List xI := [(.iload_n 1, 1, 0, 0, 0), (.bipush (-9), 2, 0, 0, (-9))]
theorem kX3_judge_28 : xcode (xmb mX3_judge) (xmo mX3_judge) 28 eX3_judge_28 = true := by decide +kernel
def eX3_judge_34 : List xI := [(.iload_n 2, 1, 0, 0, 0), (.bipush 10, 2, 0, 0, (10))]
theorem kX3_judge_34 : xcode (xmb mX3_judge) (xmo mX3_judge) 34 eX3_judge_34 = true := by decide +kernel
def eX3_judge_61 : List xI := [(.iload_n 2, 1, 0, 0, 0), (.istore_n 1, 1, 0, 0, 0)]
theorem kX3_judge_61 : xcode (xmb mX3_judge) (xmo mX3_judge) 61 eX3_judge_61 = true := by decide +kernel
def eX3_judge_63 : List xI := [(.iinc 2 1, 3, 0, 0, (1))]
theorem kX3_judge_63 : xcode (xmb mX3_judge) (xmo mX3_judge) 63 eX3_judge_63 = true := by decide +kernel
def eX3_judge_40 : List xI := [(.aload_n 0, 1, 0, 0, 0), (.getfield 47, 3, 3, 8, 0), (.iload_n 2, 1, 0, 0, 0), (.iaload, 1, 0, 0, 0), (.aload_n 0, 1, 0, 0, 0), (.getfield 33, 3, 3, 5, 0), (.getfield 137, 3, 0, 0, 0), (.getfield 91, 3, 2, 1, 0), (.iload_n 2, 1, 0, 0, 0), (.iaload, 1, 0, 0, 0)]
theorem kX3_judge_40 : xcode (xmb mX3_judge) (xmo mX3_judge) 40 eX3_judge_40 = true := by decide +kernel
def wX3_judge_69 (Q : Int32 → xM → Prop) (M : xM) (a1 : Int32) : Prop :=
    Q a1 (xup M 0 9 (0 : Int32))
set_option maxHeartbeats 4000000 in
set_option maxRecDepth 100000 in
theorem tX3_judge_69 {l : Launch} {E : xE} {Q : Int32 → xM → Prop} (M : xM) (a1 : Int32) (h : wX3_judge_69  Q M a1) : Gx l E mX3_judge (xRi Q) 69 M [some (.ref 0), some (.int a1), none] [] := by
  unfold wX3_judge_69 at h
  refine Gx_run (es := eX3_judge_69) (P := [xkd 0 = 3]) (M' := (xup M 0 9 (0 : Int32))) (L' := [some (.ref 0), some (.int a1), none]) (st' := [.int a1]) (pc' := 75) kX3_judge_69 rfl ⟨rfl, trivial⟩ rfl ?_
  exact Gx_iret (by decide +kernel) rfl rfl ⟨_, rfl, h⟩
def wX3_judge_63 (Q : Int32 → xM → Prop) (k20 : xM → Int32 → Int32 → Prop) (M : xM) (a1 : Int32) (a2 : Int32) : Prop :=
    k20 M a1 (a2 + (1 : Int32))
set_option maxHeartbeats 4000000 in
set_option maxRecDepth 100000 in
theorem tX3_judge_63 {l : Launch} {E : xE} {Q : Int32 → xM → Prop} {k20 : xM → Int32 → Int32 → Prop} (hk20 : ∀ (M : xM) (a1 : Int32) (a2 : Int32), k20 M a1 a2 → Gx l E mX3_judge (xRi Q) 20 M [some (.ref 0), some (.int a1), some (.int a2)] []) (M : xM) (a1 : Int32) (a2 : Int32) (h : wX3_judge_63  Q k20 M a1 a2) : Gx l E mX3_judge (xRi Q) 63 M [some (.ref 0), some (.int a1), some (.int a2)] [] := by
  unfold wX3_judge_63 at h
  refine Gx_run (es := eX3_judge_63) (P := []) (M' := M) (L' := [some (.ref 0), some (.int a1), some (.int (a2 + (1 : Int32)))]) (st' := []) (pc' := 66) kX3_judge_63 rfl trivial rfl ?_
  refine Gx_goto (off := -46) (tgt := 20) (by decide +kernel) (by decide) ?_
  refine Gx_mask [true, true, true] (L' := [some (.ref 0), some (.int a1), some (.int (a2 + (1 : Int32)))]) rfl ?_
  exact hk20 M a1 (a2 + (1 : Int32)) h
def wX3_judge_61 (Q : Int32 → xM → Prop) (k20 : xM → Int32 → Int32 → Prop) (M : xM) (a2 : Int32) : Prop :=
    wX3_judge_63  Q k20 M a2 a2
set_option maxHeartbeats 4000000 in
set_option maxRecDepth 100000 in
theorem tX3_judge_61 {l : Launch} {E : xE} {Q : Int32 → xM → Prop} {k20 : xM → Int32 → Int32 → Prop} (hk20 : ∀ (M : xM) (a1 : Int32) (a2 : Int32), k20 M a1 a2 → Gx l E mX3_judge (xRi Q) 20 M [some (.ref 0), some (.int a1), some (.int a2)] []) (M : xM) (a2 : Int32) (h : wX3_judge_61  Q k20 M a2) : Gx l E mX3_judge (xRi Q) 61 M [some (.ref 0), none, some (.int a2)] [] := by
  unfold wX3_judge_61 at h
  refine Gx_run (es := eX3_judge_61) (P := []) (M' := M) (L' := [some (.ref 0), some (.int a2), some (.int a2)]) (st' := []) (pc' := 63) kX3_judge_61 rfl trivial rfl ?_
  refine Gx_mask [true, true, true] (L' := [some (.ref 0), some (.int a2), some (.int a2)]) rfl ?_
  exact tX3_judge_63  hk20 M a2 a2 h
def lX3_judge_20 (Q : Int32 → xM → Prop) : Nat → xM → Int32 → Int32 → Prop
  | 0 => fun _ _ _ => False
  | n + 1 => let k20 := lX3_judge_20  Q n; fun M a1 a2 =>
    ((((M 0 9) ≤ a2) → (wX3_judge_69  Q M a1)) ∧ ((¬ (M 0 9) ≤ a2) → ((((¬ a1 = (-9 : Int32)) → (wX3_judge_69  Q M a1)) ∧ ((a1 = (-9 : Int32)) → (((((10 : Int32) ≤ a2) → (wX3_judge_61  Q k20 M a2)) ∧ ((¬ (10 : Int32) ≤ a2) → ((vp_in a2 32) ∧ (vp_in a2 10) ∧ ((((M 48 a2.toNatClampNeg) = (M 25 a2.toNatClampNeg)) → (wX3_judge_63  Q k20 M a1 a2)) ∧ ((¬ (M 48 a2.toNatClampNeg) = (M 25 a2.toNatClampNeg)) → (wX3_judge_61  Q k20 M a2))))))))))))
set_option maxHeartbeats 4000000 in
set_option maxRecDepth 100000 in
theorem tX3_judge_20 {l : Launch} {E : xE} {Q : Int32 → xM → Prop} (n : Nat) : ∀ (M : xM) (a1 : Int32) (a2 : Int32), lX3_judge_20  Q n M a1 a2 → Gx l E mX3_judge (xRi Q) 20 M [some (.ref 0), some (.int a1), some (.int a2)] [] := by
  induction n with
  | zero => intro M a1 a2 h; exact h.elim
  | succ n hk20 =>
      intro M a1 a2 h
      unfold lX3_judge_20 at h
      dsimp only at h
      refine Gx_run (es := eX3_judge_20) (P := [xkd 0 = 3]) (M' := M) (L' := [some (.ref 0), some (.int a1), some (.int a2)]) (st' := [.int (M 0 9), .int a2]) (pc' := 25) kX3_judge_20 rfl ⟨rfl, trivial⟩ rfl ?_
      refine Gx_icmp_ge (off := 44) (tgt := 69) (by decide +kernel) (by decide) (fun z => ?_) (fun z => ?_)
      · have h := h.1 z
        refine Gx_mask [true, true, false] (L' := [some (.ref 0), some (.int a1), none]) rfl ?_
        exact tX3_judge_69  M a1 h
      · have h := h.2 z
        refine Gx_run (es := eX3_judge_28) (P := []) (M' := M) (L' := [some (.ref 0), some (.int a1), some (.int a2)]) (st' := [.int (-9 : Int32), .int a1]) (pc' := 31) kX3_judge_28 rfl trivial rfl ?_
        refine Gx_icmp_ne (off := 38) (tgt := 69) (by decide +kernel) (by decide) (fun z => ?_) (fun z => ?_)
        · have h := h.1 z
          refine Gx_mask [true, true, false] (L' := [some (.ref 0), some (.int a1), none]) rfl ?_
          exact tX3_judge_69  M a1 h
        · have h := h.2 z
          refine Gx_run (es := eX3_judge_34) (P := []) (M' := M) (L' := [some (.ref 0), some (.int a1), some (.int a2)]) (st' := [.int (10 : Int32), .int a2]) (pc' := 37) kX3_judge_34 rfl trivial rfl ?_
          refine Gx_icmp_ge (off := 24) (tgt := 61) (by decide +kernel) (by decide) (fun z => ?_) (fun z => ?_)
          · have h := h.1 z
            refine Gx_mask [true, false, true] (L' := [some (.ref 0), none, some (.int a2)]) rfl ?_
            exact tX3_judge_61  hk20 M a2 h
          · have h := h.2 z
            obtain ⟨g40_0, g40_1, h⟩ := h
            refine Gx_run (es := eX3_judge_40) (P := [xkd 0 = 3, xkd 48 = 5, vp_in a2 (xln 48), xkd 0 = 3, xkd 22 = 0, xkd 23 = 2, xkd 25 = 5, vp_in a2 (xln 25)]) (M' := M) (L' := [some (.ref 0), some (.int a1), some (.int a2)]) (st' := [.int (M 25 a2.toNatClampNeg), .int (M 48 a2.toNatClampNeg)]) (pc' := 58) kX3_judge_40 rfl ⟨rfl, rfl, g40_0, rfl, rfl, rfl, rfl, g40_1, trivial⟩ rfl ?_
            refine Gx_icmp_eq (off := 5) (tgt := 63) (by decide +kernel) (by decide) (fun z => ?_) (fun z => ?_)
            · have h := h.1 z
              refine Gx_mask [true, true, true] (L' := [some (.ref 0), some (.int a1), some (.int a2)]) rfl ?_
              exact tX3_judge_63  hk20 M a1 a2 h
            · have h := h.2 z
              refine Gx_mask [true, false, true] (L' := [some (.ref 0), none, some (.int a2)]) rfl ?_
              exact tX3_judge_61  hk20 M a2 h
def wX3_judge (M : xM) (Q : Int32 → xM → Prop) : Prop :=
    wX0_run M 22 1 (M 0 11) (fun M12 => (∃ n : Nat, lX3_judge_20  Q n M12 (-9 : Int32) (0 : Int32)))
set_option maxHeartbeats 4000000 in
set_option maxRecDepth 100000 in
theorem tX3_judge {l : Launch} {E : xE} {M : xM} {Q : Int32 → xM → Prop} (h : wX3_judge M  Q) : Ct l E mX3_judge [.ref 0] M (xRi Q) := by
  refine Ct_of (by decide +kernel) rfl (Nat.le_of_ble_eq_true rfl) ?_
  unfold wX3_judge at h
  show Gx l E mX3_judge (xRi Q) 0 M [some (.ref 0), none, none] []
  refine Gx_run (es := eX3_judge_0) (P := [xkd 0 = 3, xkd 0 = 3, xkd 0 = 3]) (M' := M) (L' := [some (.ref 0), none, none]) (st' := [.int (M 0 11), .ref 1, .ref 22]) (pc' := 12) kX3_judge_0 rfl ⟨rfl, rfl, rfl, trivial⟩ rfl ?_
  refine Gx_callV (As := [.ref 1, .int (M 0 11)]) (by decide +kernel) ml_3_133 okX0_run mvX0_run rfl (by decide) (Nat.le_of_ble_eq_true rfl) rfl rfl rfl (tX0_run xChk_at22 xVol_at1 h) (fun rr M12 qq => ?_)
  obtain ⟨rfl, h⟩ := qq
  show Gx l E mX3_judge _ 15 M12 [some (.ref 0), none, none] []
  refine Gx_run (es := eX3_judge_15) (P := []) (M' := M12) (L' := [some (.ref 0), some (.int (-9 : Int32)), some (.int (0 : Int32))]) (st' := []) (pc' := 20) kX3_judge_15 rfl trivial rfl ?_
  refine Gx_mask [true, true, true] (L' := [some (.ref 0), some (.int (-9 : Int32)), some (.int (0 : Int32))]) rfl ?_
  obtain ⟨n, h⟩ := h
  exact tX3_judge_20  n M12 (-9 : Int32) (0 : Int32) h
def eX3_largest_0 : List xI := [(.iload_n 1, 1, 0, 0, 0), (.bipush 10, 2, 0, 0, (10))]
theorem kX3_largest_0 : xcode (xmb mX3_largest) (xmo mX3_largest) 0 eX3_largest_0 = true := by decide +kernel
def eX3_largest_15 : List xI := [(.aload_n 0, 1, 0, 0, 0), (.getfield 33, 3, 3, 5, 0), (.aload_n 0, 1, 0, 0, 0), (.getfield 10, 3, 3, 0, 0), (.aload_n 0, 1, 0, 0, 0), (.getfield 57, 3, 3, 11, 0)]
theorem kX3_largest_15 : xcode (xmb mX3_largest) (xmo mX3_largest) 15 eX3_largest_15 = true := by decide +kernel
def eX3_largest_30 : List xI := [(.aload_n 0, 1, 0, 0, 0), (.getfield 33, 3, 3, 5, 0), (.getfield 137, 3, 0, 0, 0), (.iload_n 1, 1, 0, 0, 0)]
theorem kX3_largest_30 : xcode (xmb mX3_largest) (xmo mX3_largest) 30 eX3_largest_30 = true := by decide +kernel
def eX3_largest_9 : List xI := [(.aload_n 0, 1, 0, 0, 0), (.iconst (-1), 1, 0, 0, (-1))]
theorem kX3_largest_9 : xcode (xmb mX3_largest) (xmo mX3_largest) 9 eX3_largest_9 = true := by decide +kernel
def wX3_largest (M : xM) (p1 : Int32) (Q : Int32 → xM → Prop) : Prop :=
    wX3_isOutside M p1 (10 : Int32) (fun r3 M3 => (((r3 = 0) → (wX0_run M3 22 1 (M3 0 11) (fun M27 => wX3_inodeBySize M27 23 p1 (fun r38 M38 => Q r38 M38)))) ∧ ((¬ r3 = 0) → (wX3_refusal M3 (-1 : Int32) (fun r11 M11 => Q r11 M11)))))
set_option maxHeartbeats 4000000 in
set_option maxRecDepth 100000 in
theorem tX3_largest {l : Launch} {E : xE} {M : xM} {p1 : Int32} {Q : Int32 → xM → Prop} (h : wX3_largest M p1 Q) : Ct l E mX3_largest [.ref 0, .int p1] M (xRi Q) := by
  refine Ct_of (by decide +kernel) rfl (Nat.le_of_ble_eq_true rfl) ?_
  unfold wX3_largest at h
  show Gx l E mX3_largest (xRi Q) 0 M [some (.ref 0), some (.int p1)] []
  refine Gx_run (es := eX3_largest_0) (P := []) (M' := M) (L' := [some (.ref 0), some (.int p1)]) (st' := [.int (10 : Int32), .int p1]) (pc' := 3) kX3_largest_0 rfl trivial rfl ?_
  refine Gx_callS (As := [.int p1, .int (10 : Int32)]) (by decide +kernel) ml_3_84 okX3_isOutside mvX3_isOutside rfl (by decide) (Nat.le_of_ble_eq_true rfl) (tX3_isOutside h) (fun rr M3 qq => ?_)
  obtain ⟨r3, rfl, h⟩ := qq
  show Gx l E mX3_largest _ 6 M3 [some (.ref 0), some (.int p1)] [.int r3]
  refine Gx_if_eq (off := 9) (tgt := 15) (by decide +kernel) (by decide) (fun z => ?_) (fun z => ?_)
  · have h := h.1 z
    refine Gx_run (es := eX3_largest_15) (P := [xkd 0 = 3, xkd 0 = 3, xkd 0 = 3]) (M' := M3) (L' := [some (.ref 0), some (.int p1)]) (st' := [.int (M3 0 11), .ref 1, .ref 22]) (pc' := 27) kX3_largest_15 rfl ⟨rfl, rfl, rfl, trivial⟩ rfl ?_
    refine Gx_callV (As := [.ref 1, .int (M3 0 11)]) (by decide +kernel) ml_3_133 okX0_run mvX0_run rfl (by decide) (Nat.le_of_ble_eq_true rfl) rfl rfl rfl (tX0_run xChk_at22 xVol_at1 h) (fun rr M27 qq => ?_)
    obtain ⟨rfl, h⟩ := qq
    show Gx l E mX3_largest _ 30 M27 [some (.ref 0), some (.int p1)] []
    refine Gx_run (es := eX3_largest_30) (P := [xkd 0 = 3, xkd 22 = 0]) (M' := M27) (L' := [some (.ref 0), some (.int p1)]) (st' := [.int p1, .ref 23]) (pc' := 38) kX3_largest_30 rfl ⟨rfl, rfl, trivial⟩ rfl ?_
    refine Gx_callS (As := [.ref 23, .int p1]) (by decide +kernel) ml_3_168 okX3_inodeBySize mvX3_inodeBySize rfl (by decide) (Nat.le_of_ble_eq_true rfl) (tX3_inodeBySize xVol_at23 h) (fun rr M38 qq => ?_)
    obtain ⟨r38, rfl, h⟩ := qq
    show Gx l E mX3_largest _ 41 M38 [some (.ref 0), some (.int p1)] [.int r38]
    exact Gx_iret (by decide +kernel) rfl rfl ⟨_, rfl, h⟩
  · have h := h.2 z
    refine Gx_run (es := eX3_largest_9) (P := []) (M' := M3) (L' := [some (.ref 0), some (.int p1)]) (st' := [.int (-1 : Int32), .ref 0]) (pc' := 11) kX3_largest_9 rfl trivial rfl ?_
    refine Gx_callV (As := [.int (-1 : Int32)]) (by decide +kernel) ml_3_63 okX3_refusal mvX3_refusal rfl (by decide) (Nat.le_of_ble_eq_true rfl) rfl rfl rfl (tX3_refusal h) (fun rr M11 qq => ?_)
    obtain ⟨r11, rfl, h⟩ := qq
    show Gx l E mX3_largest _ 14 M11 [some (.ref 0), some (.int p1)] [.int r11]
    exact Gx_iret (by decide +kernel) rfl rfl ⟨_, rfl, h⟩
def eX3_leftWithout_0 : List xI := [(.aload_n 0, 1, 0, 0, 0), (.getfield 16, 3, 3, 1, 0), (.aload_n 0, 1, 0, 0, 0), (.getfield 10, 3, 3, 0, 0)]
theorem kX3_leftWithout_0 : xcode (xmb mX3_leftWithout) (xmo mX3_leftWithout) 0 eX3_leftWithout_0 = true := by decide +kernel
def eX3_leftWithout_11 : List xI := [(.iconst 0, 1, 0, 0, (0)), (.istore_n 2, 1, 0, 0, 0)]
theorem kX3_leftWithout_11 : xcode (xmb mX3_leftWithout) (xmo mX3_leftWithout) 11 eX3_leftWithout_11 = true := by decide +kernel
def eX3_leftWithout_13 : List xI := [(.iload_n 2, 1, 0, 0, 0), (.bipush 6, 2, 0, 0, (6))]
theorem kX3_leftWithout_13 : xcode (xmb mX3_leftWithout) (xmo mX3_leftWithout) 13 eX3_leftWithout_13 = true := by decide +kernel
def eX3_leftWithout_43 : List xI := [(.aload_n 0, 1, 0, 0, 0), (.getfield 33, 3, 3, 5, 0), (.aload_n 0, 1, 0, 0, 0), (.getfield 16, 3, 3, 1, 0), (.aload_n 0, 1, 0, 0, 0), (.getfield 57, 3, 3, 11, 0)]
theorem kX3_leftWithout_43 : xcode (xmb mX3_leftWithout) (xmo mX3_leftWithout) 43 eX3_leftWithout_43 = true := by decide +kernel
def eX3_leftWithout_58 : List xI := [(.aload_n 0, 1, 0, 0, 0), (.getfield 33, 3, 3, 5, 0), (.getfield 137, 3, 0, 0, 0)]
theorem kX3_leftWithout_58 : xcode (xmb mX3_leftWithout) (xmo mX3_leftWithout) 58 eX3_leftWithout_58 = true := by decide +kernel
def eX3_leftWithout_19 : List xI := [(.iload_n 1, 1, 0, 0, 0), (.iload_n 2, 1, 0, 0, 0), (.ishr, 1, 0, 0, 0), (.iconst 1, 1, 0, 0, (1)), (.iand, 1, 0, 0, 0)]
theorem kX3_leftWithout_19 : xcode (xmb mX3_leftWithout) (xmo mX3_leftWithout) 19 eX3_leftWithout_19 = true := by decide +kernel
def eX3_leftWithout_37 : List xI := [(.iinc 2 1, 3, 0, 0, (1))]
theorem kX3_leftWithout_37 : xcode (xmb mX3_leftWithout) (xmo mX3_leftWithout) 37 eX3_leftWithout_37 = true := by decide +kernel
def eX3_leftWithout_27 : List xI := [(.aload_n 0, 1, 0, 0, 0), (.getfield 16, 3, 3, 1, 0), (.iload_n 2, 1, 0, 0, 0), (.iconst 1, 1, 0, 0, (1)), (.iadd, 1, 0, 0, 0)]
theorem kX3_leftWithout_27 : xcode (xmb mX3_leftWithout) (xmo mX3_leftWithout) 27 eX3_leftWithout_27 = true := by decide +kernel
def wX3_leftWithout_37 (p1 : Int32) (Q : Int32 → xM → Prop) (k13 : xM → Int32 → Prop) (M : xM) (a2 : Int32) : Prop :=
    k13 M (a2 + (1 : Int32))
set_option maxHeartbeats 4000000 in
set_option maxRecDepth 100000 in
theorem tX3_leftWithout_37 {l : Launch} {E : xE} {p1 : Int32} {Q : Int32 → xM → Prop} {k13 : xM → Int32 → Prop} (hk13 : ∀ (M : xM) (a2 : Int32), k13 M a2 → Gx l E mX3_leftWithout (xRi Q) 13 M [some (.ref 0), some (.int p1), some (.int a2)] []) (M : xM) (a2 : Int32) (h : wX3_leftWithout_37 p1 Q k13 M a2) : Gx l E mX3_leftWithout (xRi Q) 37 M [some (.ref 0), some (.int p1), some (.int a2)] [] := by
  unfold wX3_leftWithout_37 at h
  refine Gx_run (es := eX3_leftWithout_37) (P := []) (M' := M) (L' := [some (.ref 0), some (.int p1), some (.int (a2 + (1 : Int32)))]) (st' := []) (pc' := 40) kX3_leftWithout_37 rfl trivial rfl ?_
  refine Gx_goto (off := -27) (tgt := 13) (by decide +kernel) (by decide) ?_
  refine Gx_mask [true, true, true] (L' := [some (.ref 0), some (.int p1), some (.int (a2 + (1 : Int32)))]) rfl ?_
  exact hk13 M (a2 + (1 : Int32)) h
def lX3_leftWithout_13 (p1 : Int32) (Q : Int32 → xM → Prop) : Nat → xM → Int32 → Prop
  | 0 => fun _ _ => False
  | n + 1 => let k13 := lX3_leftWithout_13 p1 Q n; fun M a2 =>
    ((((6 : Int32) ≤ a2) → (wX0_run M 22 8 (M 0 11) (fun M55 => wX2_inodesInUse M55 23 (fun r65 M65 => wJ6_bitCount_0f7a4 M65 r65 (fun r68 M68 => Q r68 M68))))) ∧ ((¬ (6 : Int32) ≤ a2) → ((((((p1 >>> (a2 &&& 31)) &&& (1 : Int32)) = 0) → (wX3_leftWithout_37 p1 Q k13 M a2)) ∧ ((¬ ((p1 >>> (a2 &&& 31)) &&& (1 : Int32)) = 0) → (wX2_wipe M 8 (a2 + (1 : Int32)) (fun M34 => wX3_leftWithout_37 p1 Q k13 M34 a2)))))))
set_option maxHeartbeats 4000000 in
set_option maxRecDepth 100000 in
theorem tX3_leftWithout_13 {l : Launch} {E : xE} {p1 : Int32} {Q : Int32 → xM → Prop} (n : Nat) : ∀ (M : xM) (a2 : Int32), lX3_leftWithout_13 p1 Q n M a2 → Gx l E mX3_leftWithout (xRi Q) 13 M [some (.ref 0), some (.int p1), some (.int a2)] [] := by
  induction n with
  | zero => intro M a2 h; exact h.elim
  | succ n hk13 =>
      intro M a2 h
      unfold lX3_leftWithout_13 at h
      dsimp only at h
      refine Gx_run (es := eX3_leftWithout_13) (P := []) (M' := M) (L' := [some (.ref 0), some (.int p1), some (.int a2)]) (st' := [.int (6 : Int32), .int a2]) (pc' := 16) kX3_leftWithout_13 rfl trivial rfl ?_
      refine Gx_icmp_ge (off := 27) (tgt := 43) (by decide +kernel) (by decide) (fun z => ?_) (fun z => ?_)
      · have h := h.1 z
        refine Gx_run (es := eX3_leftWithout_43) (P := [xkd 0 = 3, xkd 0 = 3, xkd 0 = 3]) (M' := M) (L' := [some (.ref 0), some (.int p1), some (.int a2)]) (st' := [.int (M 0 11), .ref 8, .ref 22]) (pc' := 55) kX3_leftWithout_43 rfl ⟨rfl, rfl, rfl, trivial⟩ rfl ?_
        refine Gx_callV (As := [.ref 8, .int (M 0 11)]) (by decide +kernel) ml_3_133 okX0_run mvX0_run rfl (by decide) (Nat.le_of_ble_eq_true rfl) rfl rfl rfl (tX0_run xChk_at22 xVol_at8 h) (fun rr M55 qq => ?_)
        obtain ⟨rfl, h⟩ := qq
        show Gx l E mX3_leftWithout _ 58 M55 [some (.ref 0), some (.int p1), some (.int a2)] []
        refine Gx_run (es := eX3_leftWithout_58) (P := [xkd 0 = 3, xkd 22 = 0]) (M' := M55) (L' := [some (.ref 0), some (.int p1), some (.int a2)]) (st' := [.ref 23]) (pc' := 65) kX3_leftWithout_58 rfl ⟨rfl, rfl, trivial⟩ rfl ?_
        refine Gx_callV (As := []) (by decide +kernel) ml_3_172 okX2_inodesInUse mvX2_inodesInUse rfl (by decide) (Nat.le_of_ble_eq_true rfl) rfl rfl rfl (tX2_inodesInUse xVol_at23 h) (fun rr M65 qq => ?_)
        obtain ⟨r65, rfl, h⟩ := qq
        show Gx l E mX3_leftWithout _ 68 M65 [some (.ref 0), some (.int p1), some (.int a2)] [.int r65]
        refine Gx_callS (As := [.int r65]) (by decide +kernel) ml_3_175 okJ6_bitCount_0f7a4 mvJ6_bitCount_0f7a4 rfl (by decide) (Nat.le_of_ble_eq_true rfl) (tJ6_bitCount_0f7a4 h) (fun rr M68 qq => ?_)
        obtain ⟨r68, rfl, h⟩ := qq
        show Gx l E mX3_leftWithout _ 71 M68 [some (.ref 0), some (.int p1), some (.int a2)] [.int r68]
        exact Gx_iret (by decide +kernel) rfl rfl ⟨_, rfl, h⟩
      · have h := h.2 z
        refine Gx_run (es := eX3_leftWithout_19) (P := []) (M' := M) (L' := [some (.ref 0), some (.int p1), some (.int a2)]) (st' := [.int ((p1 >>> (a2 &&& 31)) &&& (1 : Int32))]) (pc' := 24) kX3_leftWithout_19 rfl trivial rfl ?_
        refine Gx_if_eq (off := 13) (tgt := 37) (by decide +kernel) (by decide) (fun z => ?_) (fun z => ?_)
        · have h := h.1 z
          refine Gx_mask [true, true, true] (L' := [some (.ref 0), some (.int p1), some (.int a2)]) rfl ?_
          exact tX3_leftWithout_37  hk13 M a2 h
        · have h := h.2 z
          refine Gx_run (es := eX3_leftWithout_27) (P := [xkd 0 = 3]) (M' := M) (L' := [some (.ref 0), some (.int p1), some (.int a2)]) (st' := [.int (a2 + (1 : Int32)), .ref 8]) (pc' := 34) kX3_leftWithout_27 rfl ⟨rfl, trivial⟩ rfl ?_
          refine Gx_callV (As := [.int (a2 + (1 : Int32))]) (by decide +kernel) ml_3_192 okX2_wipe mvX2_wipe rfl (by decide) (Nat.le_of_ble_eq_true rfl) rfl rfl rfl (tX2_wipe xVol_at8 h) (fun rr M34 qq => ?_)
          obtain ⟨rfl, h⟩ := qq
          show Gx l E mX3_leftWithout _ 37 M34 [some (.ref 0), some (.int p1), some (.int a2)] []
          refine Gx_mask [true, true, true] (L' := [some (.ref 0), some (.int p1), some (.int a2)]) rfl ?_
          exact tX3_leftWithout_37  hk13 M34 a2 h
def wX3_leftWithout (M : xM) (p1 : Int32) (Q : Int32 → xM → Prop) : Prop :=
    wX2_takeFrom M 8 1 (fun M8 => (∃ n : Nat, lX3_leftWithout_13 p1 Q n M8 (0 : Int32)))
set_option maxHeartbeats 4000000 in
set_option maxRecDepth 100000 in
theorem tX3_leftWithout {l : Launch} {E : xE} {M : xM} {p1 : Int32} {Q : Int32 → xM → Prop} (h : wX3_leftWithout M p1 Q) : Ct l E mX3_leftWithout [.ref 0, .int p1] M (xRi Q) := by
  refine Ct_of (by decide +kernel) rfl (Nat.le_of_ble_eq_true rfl) ?_
  unfold wX3_leftWithout at h
  show Gx l E mX3_leftWithout (xRi Q) 0 M [some (.ref 0), some (.int p1), none] []
  refine Gx_run (es := eX3_leftWithout_0) (P := [xkd 0 = 3, xkd 0 = 3]) (M' := M) (L' := [some (.ref 0), some (.int p1), none]) (st' := [.ref 1, .ref 8]) (pc' := 8) kX3_leftWithout_0 rfl ⟨rfl, rfl, trivial⟩ rfl ?_
  refine Gx_callV (As := [.ref 1]) (by decide +kernel) ml_3_140 okX2_takeFrom mvX2_takeFrom rfl (by decide) (Nat.le_of_ble_eq_true rfl) rfl rfl rfl (tX2_takeFrom xVol_at8 xVol_at1 h) (fun rr M8 qq => ?_)
  obtain ⟨rfl, h⟩ := qq
  show Gx l E mX3_leftWithout _ 11 M8 [some (.ref 0), some (.int p1), none] []
  refine Gx_run (es := eX3_leftWithout_11) (P := []) (M' := M8) (L' := [some (.ref 0), some (.int p1), some (.int (0 : Int32))]) (st' := []) (pc' := 13) kX3_leftWithout_11 rfl trivial rfl ?_
  refine Gx_mask [true, true, true] (L' := [some (.ref 0), some (.int p1), some (.int (0 : Int32))]) rfl ?_
  obtain ⟨n, h⟩ := h
  exact tX3_leftWithout_13  n M8 (0 : Int32) h
def eX3_loses_0 : List xI := [(.iload_n 1, 1, 0, 0, 0), (.iconst 3, 1, 0, 0, (3))]
theorem kX3_loses_0 : xcode (xmb mX3_loses) (xmo mX3_loses) 0 eX3_loses_0 = true := by decide +kernel
def eX3_loses_15 : List xI := [(.aload_n 0, 1, 0, 0, 0), (.getfield 33, 3, 3, 5, 0), (.aload_n 0, 1, 0, 0, 0), (.getfield 10, 3, 3, 0, 0), (.aload_n 0, 1, 0, 0, 0), (.getfield 57, 3, 3, 11, 0)]
theorem kX3_loses_15 : xcode (xmb mX3_loses) (xmo mX3_loses) 15 eX3_loses_15 = true := by decide +kernel
def eX3_loses_30 : List xI := [(.aload_n 0, 1, 0, 0, 0), (.getfield 33, 3, 3, 5, 0), (.getfield 137, 3, 0, 0, 0), (.astore_n 2, 1, 0, 0, 0), (.iload_n 1, 1, 0, 0, 0)]
theorem kX3_loses_30 : xcode (xmb mX3_loses) (xmo mX3_loses) 30 eX3_loses_30 = true := by decide +kernel
def eX3_loses_60 : List xI := [(.iload_n 1, 1, 0, 0, 0), (.iconst 1, 1, 0, 0, (1))]
theorem kX3_loses_60 : xcode (xmb mX3_loses) (xmo mX3_loses) 60 eX3_loses_60 = true := by decide +kernel
def eX3_loses_83 : List xI := [(.iconst 0, 1, 0, 0, (0)), (.aload_n 0, 1, 0, 0, 0), (.getfield 10, 3, 3, 0, 0)]
theorem kX3_loses_83 : xcode (xmb mX3_loses) (xmo mX3_loses) 83 eX3_loses_83 = true := by decide +kernel
def eX3_loses_91 : List xI := [(.aload_n 2, 1, 0, 0, 0)]
theorem kX3_loses_91 : xcode (xmb mX3_loses) (xmo mX3_loses) 91 eX3_loses_91 = true := by decide +kernel
def eX3_loses_95 : List xI := [(.isub, 1, 0, 0, 0)]
theorem kX3_loses_95 : xcode (xmb mX3_loses) (xmo mX3_loses) 95 eX3_loses_95 = true := by decide +kernel
def eX3_loses_65 : List xI := [(.aload_n 0, 1, 0, 0, 0), (.getfield 10, 3, 3, 0, 0)]
theorem kX3_loses_65 : xcode (xmb mX3_loses) (xmo mX3_loses) 65 eX3_loses_65 = true := by decide +kernel
def eX3_loses_72 : List xI := [(.aload_n 2, 1, 0, 0, 0)]
theorem kX3_loses_72 : xcode (xmb mX3_loses) (xmo mX3_loses) 72 eX3_loses_72 = true := by decide +kernel
def eX3_loses_76 : List xI := [(.iconst (-1), 1, 0, 0, (-1)), (.ixor, 1, 0, 0, 0), (.iand, 1, 0, 0, 0)]
theorem kX3_loses_76 : xcode (xmb mX3_loses) (xmo mX3_loses) 76 eX3_loses_76 = true := by decide +kernel
def eX3_loses_42 : List xI := [(.aload_n 0, 1, 0, 0, 0), (.getfield 10, 3, 3, 0, 0)]
theorem kX3_loses_42 : xcode (xmb mX3_loses) (xmo mX3_loses) 42 eX3_loses_42 = true := by decide +kernel
def eX3_loses_49 : List xI := [(.aload_n 2, 1, 0, 0, 0)]
theorem kX3_loses_49 : xcode (xmb mX3_loses) (xmo mX3_loses) 49 eX3_loses_49 = true := by decide +kernel
def eX3_loses_53 : List xI := [(.iconst (-1), 1, 0, 0, (-1)), (.ixor, 1, 0, 0, 0), (.iand, 1, 0, 0, 0)]
theorem kX3_loses_53 : xcode (xmb mX3_loses) (xmo mX3_loses) 53 eX3_loses_53 = true := by decide +kernel
def eX3_loses_8 : List xI := [(.aload_n 0, 1, 0, 0, 0), (.bipush (-2), 2, 0, 0, (-2))]
theorem kX3_loses_8 : xcode (xmb mX3_loses) (xmo mX3_loses) 8 eX3_loses_8 = true := by decide +kernel
def wX3_loses (M : xM) (p1 : Int32) (Q : Int32 → xM → Prop) : Prop :=
    wX3_isOutside M p1 (3 : Int32) (fun r2 M2 => (((r2 = 0) → (wX0_run M2 22 1 (M2 0 11) (fun M27 => (((¬ p1 = 0) → ((((¬ p1 = (1 : Int32)) → (wX2_entriesInAll M27 1 (fun r88 M88 => wX2_entriesInAll M88 23 (fun r92 M92 => Q (if (0 : Int32) < (r88 - r92) then (r88 - r92) else (0 : Int32)) M92)))) ∧ ((p1 = (1 : Int32)) → (wX2_blocksPointedAt M27 1 (fun r69 M69 => wX2_blocksPointedAt M69 23 (fun r73 M73 => wJ6_bitCount_0f7a4 M73 (r69 &&& (r73 ^^^ (-1 : Int32))) (fun r79 M79 => Q r79 M79)))))))) ∧ ((p1 = 0) → (wX2_inodesInUse M27 1 (fun r46 M46 => wX2_inodesInUse M46 23 (fun r50 M50 => wJ6_bitCount_0f7a4 M50 (r46 &&& (r50 ^^^ (-1 : Int32))) (fun r56 M56 => Q r56 M56))))))))) ∧ ((¬ r2 = 0) → (wX3_refusal M2 (-2 : Int32) (fun r11 M11 => Q r11 M11)))))
set_option maxHeartbeats 4000000 in
set_option maxRecDepth 100000 in
theorem tX3_loses {l : Launch} {E : xE} {M : xM} {p1 : Int32} {Q : Int32 → xM → Prop} (h : wX3_loses M p1 Q) : Ct l E mX3_loses [.ref 0, .int p1] M (xRi Q) := by
  refine Ct_of (by decide +kernel) rfl (Nat.le_of_ble_eq_true rfl) ?_
  unfold wX3_loses at h
  show Gx l E mX3_loses (xRi Q) 0 M [some (.ref 0), some (.int p1), none] []
  refine Gx_run (es := eX3_loses_0) (P := []) (M' := M) (L' := [some (.ref 0), some (.int p1), none]) (st' := [.int (3 : Int32), .int p1]) (pc' := 2) kX3_loses_0 rfl trivial rfl ?_
  refine Gx_callS (As := [.int p1, .int (3 : Int32)]) (by decide +kernel) ml_3_84 okX3_isOutside mvX3_isOutside rfl (by decide) (Nat.le_of_ble_eq_true rfl) (tX3_isOutside h) (fun rr M2 qq => ?_)
  obtain ⟨r2, rfl, h⟩ := qq
  show Gx l E mX3_loses _ 5 M2 [some (.ref 0), some (.int p1), none] [.int r2]
  refine Gx_if_eq (off := 10) (tgt := 15) (by decide +kernel) (by decide) (fun z => ?_) (fun z => ?_)
  · have h := h.1 z
    refine Gx_run (es := eX3_loses_15) (P := [xkd 0 = 3, xkd 0 = 3, xkd 0 = 3]) (M' := M2) (L' := [some (.ref 0), some (.int p1), none]) (st' := [.int (M2 0 11), .ref 1, .ref 22]) (pc' := 27) kX3_loses_15 rfl ⟨rfl, rfl, rfl, trivial⟩ rfl ?_
    refine Gx_callV (As := [.ref 1, .int (M2 0 11)]) (by decide +kernel) ml_3_133 okX0_run mvX0_run rfl (by decide) (Nat.le_of_ble_eq_true rfl) rfl rfl rfl (tX0_run xChk_at22 xVol_at1 h) (fun rr M27 qq => ?_)
    obtain ⟨rfl, h⟩ := qq
    show Gx l E mX3_loses _ 30 M27 [some (.ref 0), some (.int p1), none] []
    refine Gx_run (es := eX3_loses_30) (P := [xkd 0 = 3, xkd 22 = 0, 23 ≠ 103]) (M' := M27) (L' := [some (.ref 0), some (.int p1), some (.ref 23)]) (st' := [.int p1]) (pc' := 39) kX3_loses_30 rfl ⟨rfl, rfl, (by decide), trivial⟩ rfl ?_
    refine Gx_if_ne (off := 21) (tgt := 60) (by decide +kernel) (by decide) (fun z => ?_) (fun z => ?_)
    · have h := h.1 z
      refine Gx_run (es := eX3_loses_60) (P := []) (M' := M27) (L' := [some (.ref 0), some (.int p1), some (.ref 23)]) (st' := [.int (1 : Int32), .int p1]) (pc' := 62) kX3_loses_60 rfl trivial rfl ?_
      refine Gx_icmp_ne (off := 21) (tgt := 83) (by decide +kernel) (by decide) (fun z => ?_) (fun z => ?_)
      · have h := h.1 z
        refine Gx_run (es := eX3_loses_83) (P := [xkd 0 = 3]) (M' := M27) (L' := [some (.ref 0), some (.int p1), some (.ref 23)]) (st' := [.ref 1, .int (0 : Int32)]) (pc' := 88) kX3_loses_83 rfl ⟨rfl, trivial⟩ rfl ?_
        refine Gx_callV (As := []) (by decide +kernel) ml_3_183 okX2_entriesInAll mvX2_entriesInAll rfl (by decide) (Nat.le_of_ble_eq_true rfl) rfl rfl rfl (tX2_entriesInAll xVol_at1 h) (fun rr M88 qq => ?_)
        obtain ⟨r88, rfl, h⟩ := qq
        show Gx l E mX3_loses _ 91 M88 [some (.ref 0), some (.int p1), some (.ref 23)] [.int r88, .int (0 : Int32)]
        refine Gx_run (es := eX3_loses_91) (P := []) (M' := M88) (L' := [some (.ref 0), some (.int p1), some (.ref 23)]) (st' := [.ref 23, .int r88, .int (0 : Int32)]) (pc' := 92) kX3_loses_91 rfl trivial rfl ?_
        refine Gx_callV (As := []) (by decide +kernel) ml_3_183 okX2_entriesInAll mvX2_entriesInAll rfl (by decide) (Nat.le_of_ble_eq_true rfl) rfl rfl rfl (tX2_entriesInAll xVol_at23 h) (fun rr M92 qq => ?_)
        obtain ⟨r92, rfl, h⟩ := qq
        show Gx l E mX3_loses _ 95 M92 [some (.ref 0), some (.int p1), some (.ref 23)] [.int r92, .int r88, .int (0 : Int32)]
        refine Gx_run (es := eX3_loses_95) (P := []) (M' := M92) (L' := [some (.ref 0), some (.int p1), some (.ref 23)]) (st' := [.int (r88 - r92), .int (0 : Int32)]) (pc' := 96) kX3_loses_95 rfl trivial rfl ?_
        refine Gx_mmax (by decide +kernel) ml_3_186 (by decide) (Nat.le_of_ble_eq_true rfl) ?_
        exact Gx_iret (by decide +kernel) rfl rfl ⟨_, rfl, h⟩
      · have h := h.2 z
        refine Gx_run (es := eX3_loses_65) (P := [xkd 0 = 3]) (M' := M27) (L' := [some (.ref 0), some (.int p1), some (.ref 23)]) (st' := [.ref 1]) (pc' := 69) kX3_loses_65 rfl ⟨rfl, trivial⟩ rfl ?_
        refine Gx_callV (As := []) (by decide +kernel) ml_3_180 okX2_blocksPointedAt mvX2_blocksPointedAt rfl (by decide) (Nat.le_of_ble_eq_true rfl) rfl rfl rfl (tX2_blocksPointedAt xVol_at1 h) (fun rr M69 qq => ?_)
        obtain ⟨r69, rfl, h⟩ := qq
        show Gx l E mX3_loses _ 72 M69 [some (.ref 0), some (.int p1), some (.ref 23)] [.int r69]
        refine Gx_run (es := eX3_loses_72) (P := []) (M' := M69) (L' := [some (.ref 0), some (.int p1), some (.ref 23)]) (st' := [.ref 23, .int r69]) (pc' := 73) kX3_loses_72 rfl trivial rfl ?_
        refine Gx_callV (As := []) (by decide +kernel) ml_3_180 okX2_blocksPointedAt mvX2_blocksPointedAt rfl (by decide) (Nat.le_of_ble_eq_true rfl) rfl rfl rfl (tX2_blocksPointedAt xVol_at23 h) (fun rr M73 qq => ?_)
        obtain ⟨r73, rfl, h⟩ := qq
        show Gx l E mX3_loses _ 76 M73 [some (.ref 0), some (.int p1), some (.ref 23)] [.int r73, .int r69]
        refine Gx_run (es := eX3_loses_76) (P := []) (M' := M73) (L' := [some (.ref 0), some (.int p1), some (.ref 23)]) (st' := [.int (r69 &&& (r73 ^^^ (-1 : Int32)))]) (pc' := 79) kX3_loses_76 rfl trivial rfl ?_
        refine Gx_callS (As := [.int (r69 &&& (r73 ^^^ (-1 : Int32)))]) (by decide +kernel) ml_3_175 okJ6_bitCount_0f7a4 mvJ6_bitCount_0f7a4 rfl (by decide) (Nat.le_of_ble_eq_true rfl) (tJ6_bitCount_0f7a4 h) (fun rr M79 qq => ?_)
        obtain ⟨r79, rfl, h⟩ := qq
        show Gx l E mX3_loses _ 82 M79 [some (.ref 0), some (.int p1), some (.ref 23)] [.int r79]
        exact Gx_iret (by decide +kernel) rfl rfl ⟨_, rfl, h⟩
    · have h := h.2 z
      refine Gx_run (es := eX3_loses_42) (P := [xkd 0 = 3]) (M' := M27) (L' := [some (.ref 0), some (.int p1), some (.ref 23)]) (st' := [.ref 1]) (pc' := 46) kX3_loses_42 rfl ⟨rfl, trivial⟩ rfl ?_
      refine Gx_callV (As := []) (by decide +kernel) ml_3_172 okX2_inodesInUse mvX2_inodesInUse rfl (by decide) (Nat.le_of_ble_eq_true rfl) rfl rfl rfl (tX2_inodesInUse xVol_at1 h) (fun rr M46 qq => ?_)
      obtain ⟨r46, rfl, h⟩ := qq
      show Gx l E mX3_loses _ 49 M46 [some (.ref 0), some (.int p1), some (.ref 23)] [.int r46]
      refine Gx_run (es := eX3_loses_49) (P := []) (M' := M46) (L' := [some (.ref 0), some (.int p1), some (.ref 23)]) (st' := [.ref 23, .int r46]) (pc' := 50) kX3_loses_49 rfl trivial rfl ?_
      refine Gx_callV (As := []) (by decide +kernel) ml_3_172 okX2_inodesInUse mvX2_inodesInUse rfl (by decide) (Nat.le_of_ble_eq_true rfl) rfl rfl rfl (tX2_inodesInUse xVol_at23 h) (fun rr M50 qq => ?_)
      obtain ⟨r50, rfl, h⟩ := qq
      show Gx l E mX3_loses _ 53 M50 [some (.ref 0), some (.int p1), some (.ref 23)] [.int r50, .int r46]
      refine Gx_run (es := eX3_loses_53) (P := []) (M' := M50) (L' := [some (.ref 0), some (.int p1), some (.ref 23)]) (st' := [.int (r46 &&& (r50 ^^^ (-1 : Int32)))]) (pc' := 56) kX3_loses_53 rfl trivial rfl ?_
      refine Gx_callS (As := [.int (r46 &&& (r50 ^^^ (-1 : Int32)))]) (by decide +kernel) ml_3_175 okJ6_bitCount_0f7a4 mvJ6_bitCount_0f7a4 rfl (by decide) (Nat.le_of_ble_eq_true rfl) (tJ6_bitCount_0f7a4 h) (fun rr M56 qq => ?_)
      obtain ⟨r56, rfl, h⟩ := qq
      show Gx l E mX3_loses _ 59 M56 [some (.ref 0), some (.int p1), some (.ref 23)] [.int r56]
      exact Gx_iret (by decide +kernel) rfl rfl ⟨_, rfl, h⟩
  · have h := h.2 z
    refine Gx_run (es := eX3_loses_8) (P := []) (M' := M2) (L' := [some (.ref 0), some (.int p1), none]) (st' := [.int (-2 : Int32), .ref 0]) (pc' := 11) kX3_loses_8 rfl trivial rfl ?_
    refine Gx_callV (As := [.int (-2 : Int32)]) (by decide +kernel) ml_3_63 okX3_refusal mvX3_refusal rfl (by decide) (Nat.le_of_ble_eq_true rfl) rfl rfl rfl (tX3_refusal h) (fun rr M11 qq => ?_)
    obtain ⟨r11, rfl, h⟩ := qq
    show Gx l E mX3_loses _ 14 M11 [some (.ref 0), some (.int p1), none] [.int r11]
    exact Gx_iret (by decide +kernel) rfl rfl ⟨_, rfl, h⟩
def eX3_lots_0 : List xI := [(.iload_n 1, 1, 0, 0, 0), (.iconst 1, 1, 0, 0, (1))]
theorem kX3_lots_0 : xcode (xmb mX3_lots) (xmo mX3_lots) 0 eX3_lots_0 = true := by decide +kernel
def eX3_lots_12 : List xI := [(.iload_n 1, 1, 0, 0, 0), (.bipush 20, 2, 0, 0, (20))]
theorem kX3_lots_12 : xcode (xmb mX3_lots) (xmo mX3_lots) 12 eX3_lots_12 = true := by decide +kernel
def eX3_lots_25 : List xI := [(.iload_n 3, 1, 0, 0, 0)]
theorem kX3_lots_25 : xcode (xmb mX3_lots) (xmo mX3_lots) 25 eX3_lots_25 = true := by decide +kernel
def eX3_lots_41 : List xI := [(.aload_n 0, 1, 0, 0, 0), (.iload_n 2, 1, 0, 0, 0), (.putfield 60, 3, 3, 12, 0), (.iconst 0, 1, 0, 0, (0)), (.istore 4, 2, 0, 0, 0), (.iconst 0, 1, 0, 0, (0)), (.istore 5, 2, 0, 0, 0)]
theorem kX3_lots_41 : xcode (xmb mX3_lots) (xmo mX3_lots) 41 eX3_lots_41 = true := by decide +kernel
def eX3_lots_52 : List xI := [(.iload 5, 2, 0, 0, 0), (.iload_n 1, 1, 0, 0, 0)]
theorem kX3_lots_52 : xcode (xmb mX3_lots) (xmo mX3_lots) 52 eX3_lots_52 = true := by decide +kernel
def eX3_lots_142 : List xI := [(.iload 4, 2, 0, 0, 0)]
theorem kX3_lots_142 : xcode (xmb mX3_lots) (xmo mX3_lots) 142 eX3_lots_142 = true := by decide +kernel
def eX3_lots_58 : List xI := [(.aload_n 0, 1, 0, 0, 0), (.getfield 16, 3, 3, 1, 0), (.aload_n 0, 1, 0, 0, 0), (.getfield 10, 3, 3, 0, 0)]
theorem kX3_lots_58 : xcode (xmb mX3_lots) (xmo mX3_lots) 58 eX3_lots_58 = true := by decide +kernel
def eX3_lots_69 : List xI := [(.iconst 0, 1, 0, 0, (0)), (.istore 6, 2, 0, 0, 0)]
theorem kX3_lots_69 : xcode (xmb mX3_lots) (xmo mX3_lots) 69 eX3_lots_69 = true := by decide +kernel
def eX3_lots_72 : List xI := [(.iload 6, 2, 0, 0, 0), (.bipush 6, 2, 0, 0, (6))]
theorem kX3_lots_72 : xcode (xmb mX3_lots) (xmo mX3_lots) 72 eX3_lots_72 = true := by decide +kernel
def eX3_lots_89 : List xI := [(.aload_n 0, 1, 0, 0, 0), (.getfield 33, 3, 3, 5, 0), (.aload_n 0, 1, 0, 0, 0), (.getfield 16, 3, 3, 1, 0), (.aload_n 0, 1, 0, 0, 0), (.getfield 57, 3, 3, 11, 0)]
theorem kX3_lots_89 : xcode (xmb mX3_lots) (xmo mX3_lots) 89 eX3_lots_89 = true := by decide +kernel
def eX3_lots_104 : List xI := [(.iload 4, 2, 0, 0, 0), (.iload_n 3, 1, 0, 0, 0)]
theorem kX3_lots_104 : xcode (xmb mX3_lots) (xmo mX3_lots) 104 eX3_lots_104 = true := by decide +kernel
def eX3_lots_120 : List xI := [(.aload_n 0, 1, 0, 0, 0), (.getfield 33, 3, 3, 5, 0), (.getfield 137, 3, 0, 0, 0)]
theorem kX3_lots_120 : xcode (xmb mX3_lots) (xmo mX3_lots) 120 eX3_lots_120 = true := by decide +kernel
def eX3_lots_133 : List xI := [(.iadd, 1, 0, 0, 0), (.istore 4, 2, 0, 0, 0), (.iinc 5 1, 3, 0, 0, (1))]
theorem kX3_lots_133 : xcode (xmb mX3_lots) (xmo mX3_lots) 133 eX3_lots_133 = true := by decide +kernel
def eX3_lots_110 : List xI := [(.aload_n 0, 1, 0, 0, 0), (.getfield 33, 3, 3, 5, 0), (.getfield 144, 3, 0, 4, 0)]
theorem kX3_lots_110 : xcode (xmb mX3_lots) (xmo mX3_lots) 110 eX3_lots_110 = true := by decide +kernel
def eX3_lots_79 : List xI := [(.aload_n 0, 1, 0, 0, 0)]
theorem kX3_lots_79 : xcode (xmb mX3_lots) (xmo mX3_lots) 79 eX3_lots_79 = true := by decide +kernel
def eX3_lots_83 : List xI := [(.iinc 6 1, 3, 0, 0, (1))]
theorem kX3_lots_83 : xcode (xmb mX3_lots) (xmo mX3_lots) 83 eX3_lots_83 = true := by decide +kernel
def eX3_lots_29 : List xI := [(.iload_n 3, 1, 0, 0, 0), (.iconst 1, 1, 0, 0, (1))]
theorem kX3_lots_29 : xcode (xmb mX3_lots) (xmo mX3_lots) 29 eX3_lots_29 = true := by decide +kernel
def eX3_lots_34 : List xI := [(.aload_n 0, 1, 0, 0, 0), (.bipush (-2), 2, 0, 0, (-2))]
theorem kX3_lots_34 : xcode (xmb mX3_lots) (xmo mX3_lots) 34 eX3_lots_34 = true := by decide +kernel
def eX3_lots_18 : List xI := [(.aload_n 0, 1, 0, 0, 0), (.bipush (-6), 2, 0, 0, (-6))]
theorem kX3_lots_18 : xcode (xmb mX3_lots) (xmo mX3_lots) 18 eX3_lots_18 = true := by decide +kernel
def eX3_lots_5 : List xI := [(.aload_n 0, 1, 0, 0, 0), (.bipush (-4), 2, 0, 0, (-4))]
theorem kX3_lots_5 : xcode (xmb mX3_lots) (xmo mX3_lots) 5 eX3_lots_5 = true := by decide +kernel
def wX3_lots_133 (p1 : Int32) (p2 : Int32) (p3 : Int32) (Q : Int32 → xM → Prop) (k52 : xM → Int32 → Int32 → Prop) (M : xM) (a5 : Int32) (s0 : Int32) (s1 : Int32) : Prop :=
    k52 M (s1 + s0) (a5 + (1 : Int32))
set_option maxHeartbeats 4000000 in
set_option maxRecDepth 100000 in
theorem tX3_lots_133 {l : Launch} {E : xE} {p1 : Int32} {p2 : Int32} {p3 : Int32} {Q : Int32 → xM → Prop} {k52 : xM → Int32 → Int32 → Prop} (hk52 : ∀ (M : xM) (a4 : Int32) (a5 : Int32), k52 M a4 a5 → Gx l E mX3_lots (xRi Q) 52 M [some (.ref 0), some (.int p1), none, some (.int p3), some (.int a4), some (.int a5), none] []) (M : xM) (a5 : Int32) (s0 : Int32) (s1 : Int32) (h : wX3_lots_133 p1 p2 p3 Q k52 M a5 s0 s1) : Gx l E mX3_lots (xRi Q) 133 M [some (.ref 0), some (.int p1), none, some (.int p3), none, some (.int a5), none] [.int s0, .int s1] := by
  unfold wX3_lots_133 at h
  refine Gx_run (es := eX3_lots_133) (P := []) (M' := M) (L' := [some (.ref 0), some (.int p1), none, some (.int p3), some (.int (s1 + s0)), some (.int (a5 + (1 : Int32))), none]) (st' := []) (pc' := 139) kX3_lots_133 rfl trivial rfl ?_
  refine Gx_goto (off := -87) (tgt := 52) (by decide +kernel) (by decide) ?_
  refine Gx_mask [true, true, false, true, true, true, false] (L' := [some (.ref 0), some (.int p1), none, some (.int p3), some (.int (s1 + s0)), some (.int (a5 + (1 : Int32))), none]) rfl ?_
  exact hk52 M (s1 + s0) (a5 + (1 : Int32)) h
def lX3_lots_72 (p1 : Int32) (p2 : Int32) (p3 : Int32) (Q : Int32 → xM → Prop) (k52 : xM → Int32 → Int32 → Prop) : Nat → xM → Int32 → Int32 → Int32 → Prop
  | 0 => fun _ _ _ _ => False
  | n + 1 => let k72 := lX3_lots_72 p1 p2 p3 Q k52 n; fun M a4 a5 a6 =>
    ((((6 : Int32) ≤ a6) → (wX0_run M 22 8 (M 0 11) (fun M101 => (((¬ p3 = 0) → (wX2_inodesInUse M101 23 (fun r127 M127 => wJ6_bitCount_0f7a4 M127 r127 (fun r130 M130 => wX3_lots_133 p1 p2 p3 Q k52 M130 a5 r130 a4)))) ∧ ((p3 = 0) → (wX3_lots_133 p1 p2 p3 Q k52 M101 a5 (M101 22 4) a4)))))) ∧ ((¬ (6 : Int32) ≤ a6) → (wX3_changeByLot M (fun M80 => k72 M80 a4 a5 (a6 + (1 : Int32))))))
set_option maxHeartbeats 4000000 in
set_option maxRecDepth 100000 in
theorem tX3_lots_72 {l : Launch} {E : xE} {p1 : Int32} {p2 : Int32} {p3 : Int32} {Q : Int32 → xM → Prop} {k52 : xM → Int32 → Int32 → Prop} (hk52 : ∀ (M : xM) (a4 : Int32) (a5 : Int32), k52 M a4 a5 → Gx l E mX3_lots (xRi Q) 52 M [some (.ref 0), some (.int p1), none, some (.int p3), some (.int a4), some (.int a5), none] []) (n : Nat) : ∀ (M : xM) (a4 : Int32) (a5 : Int32) (a6 : Int32), lX3_lots_72 p1 p2 p3 Q k52 n M a4 a5 a6 → Gx l E mX3_lots (xRi Q) 72 M [some (.ref 0), some (.int p1), none, some (.int p3), some (.int a4), some (.int a5), some (.int a6)] [] := by
  induction n with
  | zero => intro M a4 a5 a6 h; exact h.elim
  | succ n hk72 =>
      intro M a4 a5 a6 h
      unfold lX3_lots_72 at h
      dsimp only at h
      refine Gx_run (es := eX3_lots_72) (P := []) (M' := M) (L' := [some (.ref 0), some (.int p1), none, some (.int p3), some (.int a4), some (.int a5), some (.int a6)]) (st' := [.int (6 : Int32), .int a6]) (pc' := 76) kX3_lots_72 rfl trivial rfl ?_
      refine Gx_icmp_ge (off := 13) (tgt := 89) (by decide +kernel) (by decide) (fun z => ?_) (fun z => ?_)
      · have h := h.1 z
        refine Gx_run (es := eX3_lots_89) (P := [xkd 0 = 3, xkd 0 = 3, xkd 0 = 3]) (M' := M) (L' := [some (.ref 0), some (.int p1), none, some (.int p3), some (.int a4), some (.int a5), some (.int a6)]) (st' := [.int (M 0 11), .ref 8, .ref 22]) (pc' := 101) kX3_lots_89 rfl ⟨rfl, rfl, rfl, trivial⟩ rfl ?_
        refine Gx_callV (As := [.ref 8, .int (M 0 11)]) (by decide +kernel) ml_3_133 okX0_run mvX0_run rfl (by decide) (Nat.le_of_ble_eq_true rfl) rfl rfl rfl (tX0_run xChk_at22 xVol_at8 h) (fun rr M101 qq => ?_)
        obtain ⟨rfl, h⟩ := qq
        show Gx l E mX3_lots _ 104 M101 [some (.ref 0), some (.int p1), none, some (.int p3), some (.int a4), some (.int a5), some (.int a6)] []
        refine Gx_run (es := eX3_lots_104) (P := []) (M' := M101) (L' := [some (.ref 0), some (.int p1), none, some (.int p3), some (.int a4), some (.int a5), some (.int a6)]) (st' := [.int p3, .int a4]) (pc' := 107) kX3_lots_104 rfl trivial rfl ?_
        refine Gx_if_ne (off := 13) (tgt := 120) (by decide +kernel) (by decide) (fun z => ?_) (fun z => ?_)
        · have h := h.1 z
          refine Gx_run (es := eX3_lots_120) (P := [xkd 0 = 3, xkd 22 = 0]) (M' := M101) (L' := [some (.ref 0), some (.int p1), none, some (.int p3), some (.int a4), some (.int a5), some (.int a6)]) (st' := [.ref 23, .int a4]) (pc' := 127) kX3_lots_120 rfl ⟨rfl, rfl, trivial⟩ rfl ?_
          refine Gx_callV (As := []) (by decide +kernel) ml_3_172 okX2_inodesInUse mvX2_inodesInUse rfl (by decide) (Nat.le_of_ble_eq_true rfl) rfl rfl rfl (tX2_inodesInUse xVol_at23 h) (fun rr M127 qq => ?_)
          obtain ⟨r127, rfl, h⟩ := qq
          show Gx l E mX3_lots _ 130 M127 [some (.ref 0), some (.int p1), none, some (.int p3), some (.int a4), some (.int a5), some (.int a6)] [.int r127, .int a4]
          refine Gx_callS (As := [.int r127]) (by decide +kernel) ml_3_175 okJ6_bitCount_0f7a4 mvJ6_bitCount_0f7a4 rfl (by decide) (Nat.le_of_ble_eq_true rfl) (tJ6_bitCount_0f7a4 h) (fun rr M130 qq => ?_)
          obtain ⟨r130, rfl, h⟩ := qq
          show Gx l E mX3_lots _ 133 M130 [some (.ref 0), some (.int p1), none, some (.int p3), some (.int a4), some (.int a5), some (.int a6)] [.int r130, .int a4]
          refine Gx_mask [true, true, false, true, false, true, false] (L' := [some (.ref 0), some (.int p1), none, some (.int p3), none, some (.int a5), none]) rfl ?_
          exact tX3_lots_133  hk52 M130 a5 r130 a4 h
        · have h := h.2 z
          refine Gx_run (es := eX3_lots_110) (P := [xkd 0 = 3, xkd 22 = 0]) (M' := M101) (L' := [some (.ref 0), some (.int p1), none, some (.int p3), some (.int a4), some (.int a5), some (.int a6)]) (st' := [.int (M101 22 4), .int a4]) (pc' := 117) kX3_lots_110 rfl ⟨rfl, rfl, trivial⟩ rfl ?_
          refine Gx_goto (off := 16) (tgt := 133) (by decide +kernel) (by decide) ?_
          refine Gx_mask [true, true, false, true, false, true, false] (L' := [some (.ref 0), some (.int p1), none, some (.int p3), none, some (.int a5), none]) rfl ?_
          exact tX3_lots_133  hk52 M101 a5 (M101 22 4) a4 h
      · have h := h.2 z
        refine Gx_run (es := eX3_lots_79) (P := []) (M' := M) (L' := [some (.ref 0), some (.int p1), none, some (.int p3), some (.int a4), some (.int a5), some (.int a6)]) (st' := [.ref 0]) (pc' := 80) kX3_lots_79 rfl trivial rfl ?_
        refine Gx_callV (As := []) (by decide +kernel) ml_3_218 okX3_changeByLot mvX3_changeByLot rfl (by decide) (Nat.le_of_ble_eq_true rfl) rfl rfl rfl (tX3_changeByLot h) (fun rr M80 qq => ?_)
        obtain ⟨rfl, h⟩ := qq
        show Gx l E mX3_lots _ 83 M80 [some (.ref 0), some (.int p1), none, some (.int p3), some (.int a4), some (.int a5), some (.int a6)] []
        refine Gx_run (es := eX3_lots_83) (P := []) (M' := M80) (L' := [some (.ref 0), some (.int p1), none, some (.int p3), some (.int a4), some (.int a5), some (.int (a6 + (1 : Int32)))]) (st' := []) (pc' := 86) kX3_lots_83 rfl trivial rfl ?_
        refine Gx_goto (off := -14) (tgt := 72) (by decide +kernel) (by decide) ?_
        refine Gx_mask [true, true, false, true, true, true, true] (L' := [some (.ref 0), some (.int p1), none, some (.int p3), some (.int a4), some (.int a5), some (.int (a6 + (1 : Int32)))]) rfl ?_
        exact hk72 M80 a4 a5 (a6 + (1 : Int32)) h
def lX3_lots_52 (p1 : Int32) (p2 : Int32) (p3 : Int32) (Q : Int32 → xM → Prop) : Nat → xM → Int32 → Int32 → Prop
  | 0 => fun _ _ _ => False
  | n + 1 => let k52 := lX3_lots_52 p1 p2 p3 Q n; fun M a4 a5 =>
    (((p1 ≤ a5) → (Q a4 M)) ∧ ((¬ p1 ≤ a5) → (wX2_takeFrom M 8 1 (fun M66 => (∃ n : Nat, lX3_lots_72 p1 p2 p3 Q k52 n M66 a4 a5 (0 : Int32))))))
set_option maxHeartbeats 4000000 in
set_option maxRecDepth 100000 in
theorem tX3_lots_52 {l : Launch} {E : xE} {p1 : Int32} {p2 : Int32} {p3 : Int32} {Q : Int32 → xM → Prop} (n : Nat) : ∀ (M : xM) (a4 : Int32) (a5 : Int32), lX3_lots_52 p1 p2 p3 Q n M a4 a5 → Gx l E mX3_lots (xRi Q) 52 M [some (.ref 0), some (.int p1), none, some (.int p3), some (.int a4), some (.int a5), none] [] := by
  induction n with
  | zero => intro M a4 a5 h; exact h.elim
  | succ n hk52 =>
      intro M a4 a5 h
      unfold lX3_lots_52 at h
      dsimp only at h
      refine Gx_run (es := eX3_lots_52) (P := []) (M' := M) (L' := [some (.ref 0), some (.int p1), none, some (.int p3), some (.int a4), some (.int a5), none]) (st' := [.int p1, .int a5]) (pc' := 55) kX3_lots_52 rfl trivial rfl ?_
      refine Gx_icmp_ge (off := 87) (tgt := 142) (by decide +kernel) (by decide) (fun z => ?_) (fun z => ?_)
      · have h := h.1 z
        refine Gx_run (es := eX3_lots_142) (P := []) (M' := M) (L' := [some (.ref 0), some (.int p1), none, some (.int p3), some (.int a4), some (.int a5), none]) (st' := [.int a4]) (pc' := 144) kX3_lots_142 rfl trivial rfl ?_
        exact Gx_iret (by decide +kernel) rfl rfl ⟨_, rfl, h⟩
      · have h := h.2 z
        refine Gx_run (es := eX3_lots_58) (P := [xkd 0 = 3, xkd 0 = 3]) (M' := M) (L' := [some (.ref 0), some (.int p1), none, some (.int p3), some (.int a4), some (.int a5), none]) (st' := [.ref 1, .ref 8]) (pc' := 66) kX3_lots_58 rfl ⟨rfl, rfl, trivial⟩ rfl ?_
        refine Gx_callV (As := [.ref 1]) (by decide +kernel) ml_3_140 okX2_takeFrom mvX2_takeFrom rfl (by decide) (Nat.le_of_ble_eq_true rfl) rfl rfl rfl (tX2_takeFrom xVol_at8 xVol_at1 h) (fun rr M66 qq => ?_)
        obtain ⟨rfl, h⟩ := qq
        show Gx l E mX3_lots _ 69 M66 [some (.ref 0), some (.int p1), none, some (.int p3), some (.int a4), some (.int a5), none] []
        refine Gx_run (es := eX3_lots_69) (P := []) (M' := M66) (L' := [some (.ref 0), some (.int p1), none, some (.int p3), some (.int a4), some (.int a5), some (.int (0 : Int32))]) (st' := []) (pc' := 72) kX3_lots_69 rfl trivial rfl ?_
        refine Gx_mask [true, true, false, true, true, true, true] (L' := [some (.ref 0), some (.int p1), none, some (.int p3), some (.int a4), some (.int a5), some (.int (0 : Int32))]) rfl ?_
        obtain ⟨n, h⟩ := h
        exact tX3_lots_72  hk52 n M66 a4 a5 (0 : Int32) h
def wX3_lots_41 (p1 : Int32) (p2 : Int32) (p3 : Int32) (Q : Int32 → xM → Prop) (M : xM) : Prop :=
    (∃ n : Nat, lX3_lots_52 p1 p2 p3 Q n (xup M 0 12 p2) (0 : Int32) (0 : Int32))
set_option maxHeartbeats 4000000 in
set_option maxRecDepth 100000 in
theorem tX3_lots_41 {l : Launch} {E : xE} {p1 : Int32} {p2 : Int32} {p3 : Int32} {Q : Int32 → xM → Prop} (M : xM) (h : wX3_lots_41 p1 p2 p3 Q M ) : Gx l E mX3_lots (xRi Q) 41 M [some (.ref 0), some (.int p1), some (.int p2), some (.int p3), none, none, none] [] := by
  unfold wX3_lots_41 at h
  refine Gx_run (es := eX3_lots_41) (P := [xkd 0 = 3]) (M' := (xup M 0 12 p2)) (L' := [some (.ref 0), some (.int p1), some (.int p2), some (.int p3), some (.int (0 : Int32)), some (.int (0 : Int32)), none]) (st' := []) (pc' := 52) kX3_lots_41 rfl ⟨rfl, trivial⟩ rfl ?_
  refine Gx_mask [true, true, false, true, true, true, false] (L' := [some (.ref 0), some (.int p1), none, some (.int p3), some (.int (0 : Int32)), some (.int (0 : Int32)), none]) rfl ?_
  obtain ⟨n, h⟩ := h
  exact tX3_lots_52  n (xup M 0 12 p2) (0 : Int32) (0 : Int32) h
def wX3_lots (M : xM) (p1 : Int32) (p2 : Int32) (p3 : Int32) (Q : Int32 → xM → Prop) : Prop :=
    ((((1 : Int32) ≤ p1) → ((((p1 ≤ (20 : Int32)) → ((((p3 = 0) → (wX3_lots_41 p1 p2 p3 Q M)) ∧ ((¬ p3 = 0) → ((((p3 = (1 : Int32)) → (wX3_lots_41 p1 p2 p3 Q M)) ∧ ((¬ p3 = (1 : Int32)) → (wX3_refusal M (-2 : Int32) (fun r37 M37 => Q r37 M37))))))))) ∧ ((¬ p1 ≤ (20 : Int32)) → (wX3_refusal M (-6 : Int32) (fun r21 M21 => Q r21 M21)))))) ∧ ((¬ (1 : Int32) ≤ p1) → (wX3_refusal M (-4 : Int32) (fun r8 M8 => Q r8 M8))))
set_option maxHeartbeats 4000000 in
set_option maxRecDepth 100000 in
theorem tX3_lots {l : Launch} {E : xE} {M : xM} {p1 : Int32} {p2 : Int32} {p3 : Int32} {Q : Int32 → xM → Prop} (h : wX3_lots M p1 p2 p3 Q) : Ct l E mX3_lots [.ref 0, .int p1, .int p2, .int p3] M (xRi Q) := by
  refine Ct_of (by decide +kernel) rfl (Nat.le_of_ble_eq_true rfl) ?_
  unfold wX3_lots at h
  show Gx l E mX3_lots (xRi Q) 0 M [some (.ref 0), some (.int p1), some (.int p2), some (.int p3), none, none, none] []
  refine Gx_run (es := eX3_lots_0) (P := []) (M' := M) (L' := [some (.ref 0), some (.int p1), some (.int p2), some (.int p3), none, none, none]) (st' := [.int (1 : Int32), .int p1]) (pc' := 2) kX3_lots_0 rfl trivial rfl ?_
  refine Gx_icmp_ge (off := 10) (tgt := 12) (by decide +kernel) (by decide) (fun z => ?_) (fun z => ?_)
  · have h := h.1 z
    refine Gx_run (es := eX3_lots_12) (P := []) (M' := M) (L' := [some (.ref 0), some (.int p1), some (.int p2), some (.int p3), none, none, none]) (st' := [.int (20 : Int32), .int p1]) (pc' := 15) kX3_lots_12 rfl trivial rfl ?_
    refine Gx_icmp_le (off := 10) (tgt := 25) (by decide +kernel) (by decide) (fun z => ?_) (fun z => ?_)
    · have h := h.1 z
      refine Gx_run (es := eX3_lots_25) (P := []) (M' := M) (L' := [some (.ref 0), some (.int p1), some (.int p2), some (.int p3), none, none, none]) (st' := [.int p3]) (pc' := 26) kX3_lots_25 rfl trivial rfl ?_
      refine Gx_if_eq (off := 15) (tgt := 41) (by decide +kernel) (by decide) (fun z => ?_) (fun z => ?_)
      · have h := h.1 z
        refine Gx_mask [true, true, true, true, false, false, false] (L' := [some (.ref 0), some (.int p1), some (.int p2), some (.int p3), none, none, none]) rfl ?_
        exact tX3_lots_41  M h
      · have h := h.2 z
        refine Gx_run (es := eX3_lots_29) (P := []) (M' := M) (L' := [some (.ref 0), some (.int p1), some (.int p2), some (.int p3), none, none, none]) (st' := [.int (1 : Int32), .int p3]) (pc' := 31) kX3_lots_29 rfl trivial rfl ?_
        refine Gx_icmp_eq (off := 10) (tgt := 41) (by decide +kernel) (by decide) (fun z => ?_) (fun z => ?_)
        · have h := h.1 z
          refine Gx_mask [true, true, true, true, false, false, false] (L' := [some (.ref 0), some (.int p1), some (.int p2), some (.int p3), none, none, none]) rfl ?_
          exact tX3_lots_41  M h
        · have h := h.2 z
          refine Gx_run (es := eX3_lots_34) (P := []) (M' := M) (L' := [some (.ref 0), some (.int p1), some (.int p2), some (.int p3), none, none, none]) (st' := [.int (-2 : Int32), .ref 0]) (pc' := 37) kX3_lots_34 rfl trivial rfl ?_
          refine Gx_callV (As := [.int (-2 : Int32)]) (by decide +kernel) ml_3_63 okX3_refusal mvX3_refusal rfl (by decide) (Nat.le_of_ble_eq_true rfl) rfl rfl rfl (tX3_refusal h) (fun rr M37 qq => ?_)
          obtain ⟨r37, rfl, h⟩ := qq
          show Gx l E mX3_lots _ 40 M37 [some (.ref 0), some (.int p1), some (.int p2), some (.int p3), none, none, none] [.int r37]
          exact Gx_iret (by decide +kernel) rfl rfl ⟨_, rfl, h⟩
    · have h := h.2 z
      refine Gx_run (es := eX3_lots_18) (P := []) (M' := M) (L' := [some (.ref 0), some (.int p1), some (.int p2), some (.int p3), none, none, none]) (st' := [.int (-6 : Int32), .ref 0]) (pc' := 21) kX3_lots_18 rfl trivial rfl ?_
      refine Gx_callV (As := [.int (-6 : Int32)]) (by decide +kernel) ml_3_63 okX3_refusal mvX3_refusal rfl (by decide) (Nat.le_of_ble_eq_true rfl) rfl rfl rfl (tX3_refusal h) (fun rr M21 qq => ?_)
      obtain ⟨r21, rfl, h⟩ := qq
      show Gx l E mX3_lots _ 24 M21 [some (.ref 0), some (.int p1), some (.int p2), some (.int p3), none, none, none] [.int r21]
      exact Gx_iret (by decide +kernel) rfl rfl ⟨_, rfl, h⟩
  · have h := h.2 z
    refine Gx_run (es := eX3_lots_5) (P := []) (M' := M) (L' := [some (.ref 0), some (.int p1), some (.int p2), some (.int p3), none, none, none]) (st' := [.int (-4 : Int32), .ref 0]) (pc' := 8) kX3_lots_5 rfl trivial rfl ?_
    refine Gx_callV (As := [.int (-4 : Int32)]) (by decide +kernel) ml_3_63 okX3_refusal mvX3_refusal rfl (by decide) (Nat.le_of_ble_eq_true rfl) rfl rfl rfl (tX3_refusal h) (fun rr M8 qq => ?_)
    obtain ⟨r8, rfl, h⟩ := qq
    show Gx l E mX3_lots _ 11 M8 [some (.ref 0), some (.int p1), some (.int p2), some (.int p3), none, none, none] [.int r8]
    exact Gx_iret (by decide +kernel) rfl rfl ⟨_, rfl, h⟩
