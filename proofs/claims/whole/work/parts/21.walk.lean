/-! walks: X0_mendEntries, X1_lengthAt, X1_pairAt, X2_blocksOf, X2_blocksShared, X2_depthOf, X2_reachedFrom, X3_count, X3_image, X3_mean, X3_on -/
def eX0_mendEntries_0 : List xI := [(.iconst 0, 1, 0, 0, (0)), (.istore_n 1, 1, 0, 0, 0), (.iconst 0, 1, 0, 0, (0)), (.istore_n 2, 1, 0, 0, 0)]
theorem kX0_mendEntries_0 : xcode (xmb mX0_mendEntries) (xmo mX0_mendEntries) 0 eX0_mendEntries_0 = true := by decide +kernel
def eX0_mendEntries_4 : List xI := [(.iload_n 2, 1, 0, 0, 0), (.bipush 10, 2, 0, 0, (10))]
theorem kX0_mendEntries_4 : xcode (xmb mX0_mendEntries) (xmo mX0_mendEntries) 4 eX0_mendEntries_4 = true := by decide +kernel
def eX0_mendEntries_10 : List xI := [(.iconst 0, 1, 0, 0, (0)), (.istore_n 3, 1, 0, 0, 0), (.iconst 0, 1, 0, 0, (0)), (.istore 4, 2, 0, 0, 0)]
theorem kX0_mendEntries_10 : xcode (xmb mX0_mendEntries) (xmo mX0_mendEntries) 10 eX0_mendEntries_10 = true := by decide +kernel
def eX0_mendEntries_15 : List xI := [(.iload 4, 2, 0, 0, 0), (.bipush 6, 2, 0, 0, (6))]
theorem kX0_mendEntries_15 : xcode (xmb mX0_mendEntries) (xmo mX0_mendEntries) 15 eX0_mendEntries_15 = true := by decide +kernel
def eX0_mendEntries_131 : List xI := [(.iinc 2 1, 3, 0, 0, (1))]
theorem kX0_mendEntries_131 : xcode (xmb mX0_mendEntries) (xmo mX0_mendEntries) 131 eX0_mendEntries_131 = true := by decide +kernel
def eX0_mendEntries_22 : List xI := [(.aload_n 0, 1, 0, 0, 0), (.getfield 12, 3, 0, 0, 0), (.getfield 99, 3, 2, 4, 0), (.bipush 6, 2, 0, 0, (6)), (.iload_n 2, 1, 0, 0, 0), (.imul, 1, 0, 0, 0), (.iload 4, 2, 0, 0, 0), (.iadd, 1, 0, 0, 0), (.iaload, 1, 0, 0, 0), (.istore 5, 2, 0, 0, 0), (.iload 5, 2, 0, 0, 0), (.bipush (-9), 2, 0, 0, (-9))]
theorem kX0_mendEntries_22 : xcode (xmb mX0_mendEntries) (xmo mX0_mendEntries) 22 eX0_mendEntries_22 = true := by decide +kernel
def eX0_mendEntries_50 : List xI := [(.aload_n 0, 1, 0, 0, 0), (.iload_n 2, 1, 0, 0, 0), (.iload 4, 2, 0, 0, 0), (.iload_n 3, 1, 0, 0, 0), (.iload_n 1, 1, 0, 0, 0)]
theorem kX0_mendEntries_50 : xcode (xmb mX0_mendEntries) (xmo mX0_mendEntries) 50 eX0_mendEntries_50 = true := by decide +kernel
def eX0_mendEntries_59 : List xI := [(.istore 6, 2, 0, 0, 0), (.iload 6, 2, 0, 0, 0)]
theorem kX0_mendEntries_59 : xcode (xmb mX0_mendEntries) (xmo mX0_mendEntries) 59 eX0_mendEntries_59 = true := by decide +kernel
def eX0_mendEntries_98 : List xI := [(.iload 5, 2, 0, 0, 0), (.bipush (-9), 2, 0, 0, (-9))]
theorem kX0_mendEntries_98 : xcode (xmb mX0_mendEntries) (xmo mX0_mendEntries) 98 eX0_mendEntries_98 = true := by decide +kernel
def eX0_mendEntries_125 : List xI := [(.iinc 4 1, 3, 0, 0, (1))]
theorem kX0_mendEntries_125 : xcode (xmb mX0_mendEntries) (xmo mX0_mendEntries) 125 eX0_mendEntries_125 = true := by decide +kernel
def eX0_mendEntries_105 : List xI := [(.iload_n 3, 1, 0, 0, 0), (.iconst 1, 1, 0, 0, (1)), (.iload 5, 2, 0, 0, 0), (.bipush 26, 2, 0, 0, (26)), (.irem, 1, 0, 0, 0), (.ishl, 1, 0, 0, 0), (.ior, 1, 0, 0, 0), (.istore_n 3, 1, 0, 0, 0), (.iload_n 1, 1, 0, 0, 0), (.iconst 1, 1, 0, 0, (1)), (.iload 5, 2, 0, 0, 0), (.bipush 26, 2, 0, 0, (26)), (.idiv, 1, 0, 0, 0), (.ishl, 1, 0, 0, 0), (.ior, 1, 0, 0, 0), (.istore_n 1, 1, 0, 0, 0)]
theorem kX0_mendEntries_105 : xcode (xmb mX0_mendEntries) (xmo mX0_mendEntries) 105 eX0_mendEntries_105 = true := by decide +kernel
def eX0_mendEntries_66 : List xI := [(.aload_n 0, 1, 0, 0, 0), (.iload 6, 2, 0, 0, 0), (.iload_n 2, 1, 0, 0, 0), (.iload 4, 2, 0, 0, 0)]
theorem kX0_mendEntries_66 : xcode (xmb mX0_mendEntries) (xmo mX0_mendEntries) 66 eX0_mendEntries_66 = true := by decide +kernel
def eX0_mendEntries_78 : List xI := [(.aload_n 0, 1, 0, 0, 0), (.getfield 12, 3, 0, 0, 0), (.getfield 99, 3, 2, 4, 0), (.bipush 6, 2, 0, 0, (6)), (.iload_n 2, 1, 0, 0, 0), (.imul, 1, 0, 0, 0), (.iload 4, 2, 0, 0, 0), (.iadd, 1, 0, 0, 0), (.bipush (-9), 2, 0, 0, (-9)), (.iastore, 1, 0, 0, 0)]
theorem kX0_mendEntries_78 : xcode (xmb mX0_mendEntries) (xmo mX0_mendEntries) 78 eX0_mendEntries_78 = true := by decide +kernel
def eX0_mendEntries_46 : List xI := [(.iconst 0, 1, 0, 0, (0))]
theorem kX0_mendEntries_46 : xcode (xmb mX0_mendEntries) (xmo mX0_mendEntries) 46 eX0_mendEntries_46 = true := by decide +kernel
def wX0_mendEntries_125 (c : Nat) (Q : xM → Prop) (k4 : xM → Int32 → Int32 → Prop) (k15 : xM → Int32 → Int32 → Int32 → Int32 → Prop) (M : xM) (a1 : Int32) (a2 : Int32) (a3 : Int32) (a4 : Int32) : Prop :=
    k15 M a1 a2 a3 (a4 + (1 : Int32))
set_option maxHeartbeats 4000000 in
set_option maxRecDepth 100000 in
theorem tX0_mendEntries_125 {l : Launch} {E : xE} {c : Nat} {Q : xM → Prop} {k4 : xM → Int32 → Int32 → Prop} {k15 : xM → Int32 → Int32 → Int32 → Int32 → Prop} (h_c : xChk c) (hk4 : ∀ (M : xM) (a1 : Int32) (a2 : Int32), k4 M a1 a2 → Gx l E mX0_mendEntries (xRv Q) 4 M [some (.ref c), some (.int a1), some (.int a2), none, none, none, none] []) (hk15 : ∀ (M : xM) (a1 : Int32) (a2 : Int32) (a3 : Int32) (a4 : Int32), k15 M a1 a2 a3 a4 → Gx l E mX0_mendEntries (xRv Q) 15 M [some (.ref c), some (.int a1), some (.int a2), some (.int a3), some (.int a4), none, none] []) (M : xM) (a1 : Int32) (a2 : Int32) (a3 : Int32) (a4 : Int32) (h : wX0_mendEntries_125 c Q k4 k15 M a1 a2 a3 a4) : Gx l E mX0_mendEntries (xRv Q) 125 M [some (.ref c), some (.int a1), some (.int a2), some (.int a3), some (.int a4), none, none] [] := by
  unfold wX0_mendEntries_125 at h
  refine Gx_run (es := eX0_mendEntries_125) (P := []) (M' := M) (L' := [some (.ref c), some (.int a1), some (.int a2), some (.int a3), some (.int (a4 + (1 : Int32))), none, none]) (st' := []) (pc' := 128) kX0_mendEntries_125 rfl trivial rfl ?_
  refine Gx_goto (off := -113) (tgt := 15) (by decide +kernel) (by decide) ?_
  refine Gx_mask [true, true, true, true, true, false, false] (L' := [some (.ref c), some (.int a1), some (.int a2), some (.int a3), some (.int (a4 + (1 : Int32))), none, none]) rfl ?_
  exact hk15 M a1 a2 a3 (a4 + (1 : Int32)) h
def wX0_mendEntries_98 (c : Nat) (Q : xM → Prop) (k4 : xM → Int32 → Int32 → Prop) (k15 : xM → Int32 → Int32 → Int32 → Int32 → Prop) (M : xM) (a1 : Int32) (a2 : Int32) (a3 : Int32) (a4 : Int32) (a5 : Int32) : Prop :=
    (((a5 = (-9 : Int32)) → (wX0_mendEntries_125 c Q k4 k15 M a1 a2 a3 a4)) ∧ ((¬ a5 = (-9 : Int32)) → (wX0_mendEntries_125 c Q k4 k15 M (a1 ||| ((1 : Int32) <<< ((a5 / (26 : Int32)) &&& 31))) a2 (a3 ||| ((1 : Int32) <<< ((a5 - a5 / (26 : Int32) * (26 : Int32)) &&& 31))) a4)))
set_option maxHeartbeats 4000000 in
set_option maxRecDepth 100000 in
theorem tX0_mendEntries_98 {l : Launch} {E : xE} {c : Nat} {Q : xM → Prop} {k4 : xM → Int32 → Int32 → Prop} {k15 : xM → Int32 → Int32 → Int32 → Int32 → Prop} (h_c : xChk c) (hk4 : ∀ (M : xM) (a1 : Int32) (a2 : Int32), k4 M a1 a2 → Gx l E mX0_mendEntries (xRv Q) 4 M [some (.ref c), some (.int a1), some (.int a2), none, none, none, none] []) (hk15 : ∀ (M : xM) (a1 : Int32) (a2 : Int32) (a3 : Int32) (a4 : Int32), k15 M a1 a2 a3 a4 → Gx l E mX0_mendEntries (xRv Q) 15 M [some (.ref c), some (.int a1), some (.int a2), some (.int a3), some (.int a4), none, none] []) (M : xM) (a1 : Int32) (a2 : Int32) (a3 : Int32) (a4 : Int32) (a5 : Int32) (h : wX0_mendEntries_98 c Q k4 k15 M a1 a2 a3 a4 a5) : Gx l E mX0_mendEntries (xRv Q) 98 M [some (.ref c), some (.int a1), some (.int a2), some (.int a3), some (.int a4), some (.int a5), none] [] := by
  unfold wX0_mendEntries_98 at h
  refine Gx_run (es := eX0_mendEntries_98) (P := []) (M' := M) (L' := [some (.ref c), some (.int a1), some (.int a2), some (.int a3), some (.int a4), some (.int a5), none]) (st' := [.int (-9 : Int32), .int a5]) (pc' := 102) kX0_mendEntries_98 rfl trivial rfl ?_
  refine Gx_icmp_eq (off := 23) (tgt := 125) (by decide +kernel) (by decide) (fun z => ?_) (fun z => ?_)
  · have h := h.1 z
    refine Gx_mask [true, true, true, true, true, false, false] (L' := [some (.ref c), some (.int a1), some (.int a2), some (.int a3), some (.int a4), none, none]) rfl ?_
    exact tX0_mendEntries_125 h_c  hk4 hk15 M a1 a2 a3 a4 h
  · have h := h.2 z
    refine Gx_run (es := eX0_mendEntries_105) (P := [¬ (26 : Int32) = 0, ¬ (26 : Int32) = 0]) (M' := M) (L' := [some (.ref c), some (.int (a1 ||| ((1 : Int32) <<< ((a5 / (26 : Int32)) &&& 31)))), some (.int a2), some (.int (a3 ||| ((1 : Int32) <<< ((a5 - a5 / (26 : Int32) * (26 : Int32)) &&& 31)))), some (.int a4), some (.int a5), none]) (st' := []) (pc' := 125) kX0_mendEntries_105 rfl ⟨(by decide), (by decide), trivial⟩ rfl ?_
    refine Gx_mask [true, true, true, true, true, false, false] (L' := [some (.ref c), some (.int (a1 ||| ((1 : Int32) <<< ((a5 / (26 : Int32)) &&& 31)))), some (.int a2), some (.int (a3 ||| ((1 : Int32) <<< ((a5 - a5 / (26 : Int32) * (26 : Int32)) &&& 31)))), some (.int a4), none, none]) rfl ?_
    exact tX0_mendEntries_125 h_c  hk4 hk15 M (a1 ||| ((1 : Int32) <<< ((a5 / (26 : Int32)) &&& 31))) a2 (a3 ||| ((1 : Int32) <<< ((a5 - a5 / (26 : Int32) * (26 : Int32)) &&& 31))) a4 h
def wX0_mendEntries_59 (c : Nat) (Q : xM → Prop) (k4 : xM → Int32 → Int32 → Prop) (k15 : xM → Int32 → Int32 → Int32 → Int32 → Prop) (M : xM) (a1 : Int32) (a2 : Int32) (a3 : Int32) (a4 : Int32) (a5 : Int32) (s0 : Int32) : Prop :=
    (((s0 = 0) → (wX0_mendEntries_98 c Q k4 k15 M a1 a2 a3 a4 a5)) ∧ ((¬ s0 = 0) → (wX0_asks M c s0 a2 a4 (fun r72 M72 => (((r72 = 0) → (wX0_mendEntries_98 c Q k4 k15 M72 a1 a2 a3 a4 a5)) ∧ ((¬ r72 = 0) → ((vp_in (((6 : Int32) * a2) + a4) 60) ∧ wX0_mendEntries_125 c Q k4 k15 (xup M72 (c + 6) (((6 : Int32) * a2) + a4).toNatClampNeg (-9 : Int32)) a1 a2 a3 a4)))))))
set_option maxHeartbeats 4000000 in
set_option maxRecDepth 100000 in
theorem tX0_mendEntries_59 {l : Launch} {E : xE} {c : Nat} {Q : xM → Prop} {k4 : xM → Int32 → Int32 → Prop} {k15 : xM → Int32 → Int32 → Int32 → Int32 → Prop} (h_c : xChk c) (hk4 : ∀ (M : xM) (a1 : Int32) (a2 : Int32), k4 M a1 a2 → Gx l E mX0_mendEntries (xRv Q) 4 M [some (.ref c), some (.int a1), some (.int a2), none, none, none, none] []) (hk15 : ∀ (M : xM) (a1 : Int32) (a2 : Int32) (a3 : Int32) (a4 : Int32), k15 M a1 a2 a3 a4 → Gx l E mX0_mendEntries (xRv Q) 15 M [some (.ref c), some (.int a1), some (.int a2), some (.int a3), some (.int a4), none, none] []) (M : xM) (a1 : Int32) (a2 : Int32) (a3 : Int32) (a4 : Int32) (a5 : Int32) (s0 : Int32) (h : wX0_mendEntries_59 c Q k4 k15 M a1 a2 a3 a4 a5 s0) : Gx l E mX0_mendEntries (xRv Q) 59 M [some (.ref c), some (.int a1), some (.int a2), some (.int a3), some (.int a4), some (.int a5), none] [.int s0] := by
  unfold wX0_mendEntries_59 at h
  refine Gx_run (es := eX0_mendEntries_59) (P := []) (M' := M) (L' := [some (.ref c), some (.int a1), some (.int a2), some (.int a3), some (.int a4), some (.int a5), some (.int s0)]) (st' := [.int s0]) (pc' := 63) kX0_mendEntries_59 rfl trivial rfl ?_
  refine Gx_if_eq (off := 35) (tgt := 98) (by decide +kernel) (by decide) (fun z => ?_) (fun z => ?_)
  · have h := h.1 z
    refine Gx_mask [true, true, true, true, true, true, false] (L' := [some (.ref c), some (.int a1), some (.int a2), some (.int a3), some (.int a4), some (.int a5), none]) rfl ?_
    exact tX0_mendEntries_98 h_c  hk4 hk15 M a1 a2 a3 a4 a5 h
  · have h := h.2 z
    refine Gx_run (es := eX0_mendEntries_66) (P := []) (M' := M) (L' := [some (.ref c), some (.int a1), some (.int a2), some (.int a3), some (.int a4), some (.int a5), some (.int s0)]) (st' := [.int a4, .int a2, .int s0, .ref c]) (pc' := 72) kX0_mendEntries_66 rfl trivial rfl ?_
    refine Gx_callV (As := [.int s0, .int a2, .int a4]) (by decide +kernel) ml_0_64 okX0_asks mvX0_asks rfl (by decide) (Nat.le_of_ble_eq_true rfl) (xChk_0 h_c) rfl rfl (tX0_asks h_c h) (fun rr M72 qq => ?_)
    obtain ⟨r72, rfl, h⟩ := qq
    show Gx l E mX0_mendEntries _ 75 M72 [some (.ref c), some (.int a1), some (.int a2), some (.int a3), some (.int a4), some (.int a5), some (.int s0)] [.int r72]
    refine Gx_if_eq (off := 23) (tgt := 98) (by decide +kernel) (by decide) (fun z => ?_) (fun z => ?_)
    · have h := h.1 z
      refine Gx_mask [true, true, true, true, true, true, false] (L' := [some (.ref c), some (.int a1), some (.int a2), some (.int a3), some (.int a4), some (.int a5), none]) rfl ?_
      exact tX0_mendEntries_98 h_c  hk4 hk15 M72 a1 a2 a3 a4 a5 h
    · have h := h.2 z
      obtain ⟨g78_0, h⟩ := h
      refine Gx_run (es := eX0_mendEntries_78) (P := [xkd c = 0, xkd (c + 1) = 2, xkd (c + 6) = 5, vp_in (((6 : Int32) * a2) + a4) (xln (c + 6))]) (M' := (xup M72 (c + 6) (((6 : Int32) * a2) + a4).toNatClampNeg (-9 : Int32))) (L' := [some (.ref c), some (.int a1), some (.int a2), some (.int a3), some (.int a4), some (.int a5), some (.int s0)]) (st' := []) (pc' := 95) kX0_mendEntries_78 rfl ⟨(xChk_0 h_c), (xChk_1 h_c), (xChk_6 h_c), (by rw [xChk_l6 h_c]; exact g78_0), trivial⟩ rfl ?_
      refine Gx_goto (off := 30) (tgt := 125) (by decide +kernel) (by decide) ?_
      refine Gx_mask [true, true, true, true, true, false, false] (L' := [some (.ref c), some (.int a1), some (.int a2), some (.int a3), some (.int a4), none, none]) rfl ?_
      exact tX0_mendEntries_125 h_c  hk4 hk15 (xup M72 (c + 6) (((6 : Int32) * a2) + a4).toNatClampNeg (-9 : Int32)) a1 a2 a3 a4 h
def lX0_mendEntries_15 (c : Nat) (Q : xM → Prop) (k4 : xM → Int32 → Int32 → Prop) : Nat → xM → Int32 → Int32 → Int32 → Int32 → Prop
  | 0 => fun _ _ _ _ _ => False
  | n + 1 => let k15 := lX0_mendEntries_15 c Q k4 n; fun M a1 a2 a3 a4 =>
    ((((6 : Int32) ≤ a4) → (k4 M a1 (a2 + (1 : Int32)))) ∧ ((¬ (6 : Int32) ≤ a4) → ((vp_in (((6 : Int32) * a2) + a4) 60) ∧ (((¬ (M (c + 6) (((6 : Int32) * a2) + a4).toNatClampNeg) = (-9 : Int32)) → (wX0_faultOfEntry M c a2 a4 a3 a1 (fun r56 M56 => wX0_mendEntries_59 c Q k4 k15 M56 a1 a2 a3 a4 (M (c + 6) (((6 : Int32) * a2) + a4).toNatClampNeg) r56))) ∧ (((M (c + 6) (((6 : Int32) * a2) + a4).toNatClampNeg) = (-9 : Int32)) → (wX0_mendEntries_59 c Q k4 k15 M a1 a2 a3 a4 (M (c + 6) (((6 : Int32) * a2) + a4).toNatClampNeg) (0 : Int32)))))))
set_option maxHeartbeats 4000000 in
set_option maxRecDepth 100000 in
theorem tX0_mendEntries_15 {l : Launch} {E : xE} {c : Nat} {Q : xM → Prop} {k4 : xM → Int32 → Int32 → Prop} (h_c : xChk c) (hk4 : ∀ (M : xM) (a1 : Int32) (a2 : Int32), k4 M a1 a2 → Gx l E mX0_mendEntries (xRv Q) 4 M [some (.ref c), some (.int a1), some (.int a2), none, none, none, none] []) (n : Nat) : ∀ (M : xM) (a1 : Int32) (a2 : Int32) (a3 : Int32) (a4 : Int32), lX0_mendEntries_15 c Q k4 n M a1 a2 a3 a4 → Gx l E mX0_mendEntries (xRv Q) 15 M [some (.ref c), some (.int a1), some (.int a2), some (.int a3), some (.int a4), none, none] [] := by
  induction n with
  | zero => intro M a1 a2 a3 a4 h; exact h.elim
  | succ n hk15 =>
      intro M a1 a2 a3 a4 h
      unfold lX0_mendEntries_15 at h
      dsimp only at h
      refine Gx_run (es := eX0_mendEntries_15) (P := []) (M' := M) (L' := [some (.ref c), some (.int a1), some (.int a2), some (.int a3), some (.int a4), none, none]) (st' := [.int (6 : Int32), .int a4]) (pc' := 19) kX0_mendEntries_15 rfl trivial rfl ?_
      refine Gx_icmp_ge (off := 112) (tgt := 131) (by decide +kernel) (by decide) (fun z => ?_) (fun z => ?_)
      · have h := h.1 z
        refine Gx_run (es := eX0_mendEntries_131) (P := []) (M' := M) (L' := [some (.ref c), some (.int a1), some (.int (a2 + (1 : Int32))), some (.int a3), some (.int a4), none, none]) (st' := []) (pc' := 134) kX0_mendEntries_131 rfl trivial rfl ?_
        refine Gx_goto (off := -130) (tgt := 4) (by decide +kernel) (by decide) ?_
        refine Gx_mask [true, true, true, false, false, false, false] (L' := [some (.ref c), some (.int a1), some (.int (a2 + (1 : Int32))), none, none, none, none]) rfl ?_
        exact hk4 M a1 (a2 + (1 : Int32)) h
      · have h := h.2 z
        obtain ⟨g22_0, h⟩ := h
        refine Gx_run (es := eX0_mendEntries_22) (P := [xkd c = 0, xkd (c + 1) = 2, xkd (c + 6) = 5, vp_in (((6 : Int32) * a2) + a4) (xln (c + 6))]) (M' := M) (L' := [some (.ref c), some (.int a1), some (.int a2), some (.int a3), some (.int a4), some (.int (M (c + 6) (((6 : Int32) * a2) + a4).toNatClampNeg)), none]) (st' := [.int (-9 : Int32), .int (M (c + 6) (((6 : Int32) * a2) + a4).toNatClampNeg)]) (pc' := 43) kX0_mendEntries_22 rfl ⟨(xChk_0 h_c), (xChk_1 h_c), (xChk_6 h_c), (by rw [xChk_l6 h_c]; exact g22_0), trivial⟩ rfl ?_
        refine Gx_icmp_ne (off := 7) (tgt := 50) (by decide +kernel) (by decide) (fun z => ?_) (fun z => ?_)
        · have h := h.1 z
          refine Gx_run (es := eX0_mendEntries_50) (P := []) (M' := M) (L' := [some (.ref c), some (.int a1), some (.int a2), some (.int a3), some (.int a4), some (.int (M (c + 6) (((6 : Int32) * a2) + a4).toNatClampNeg)), none]) (st' := [.int a1, .int a3, .int a4, .int a2, .ref c]) (pc' := 56) kX0_mendEntries_50 rfl trivial rfl ?_
          refine Gx_callV (As := [.int a2, .int a4, .int a3, .int a1]) (by decide +kernel) ml_0_102 okX0_faultOfEntry mvX0_faultOfEntry rfl (by decide) (Nat.le_of_ble_eq_true rfl) (xChk_0 h_c) rfl rfl (tX0_faultOfEntry h_c h) (fun rr M56 qq => ?_)
          obtain ⟨r56, rfl, h⟩ := qq
          show Gx l E mX0_mendEntries _ 59 M56 [some (.ref c), some (.int a1), some (.int a2), some (.int a3), some (.int a4), some (.int (M (c + 6) (((6 : Int32) * a2) + a4).toNatClampNeg)), none] [.int r56]
          refine Gx_mask [true, true, true, true, true, true, false] (L' := [some (.ref c), some (.int a1), some (.int a2), some (.int a3), some (.int a4), some (.int (M (c + 6) (((6 : Int32) * a2) + a4).toNatClampNeg)), none]) rfl ?_
          exact tX0_mendEntries_59 h_c  hk4 hk15 M56 a1 a2 a3 a4 (M (c + 6) (((6 : Int32) * a2) + a4).toNatClampNeg) r56 h
        · have h := h.2 z
          refine Gx_run (es := eX0_mendEntries_46) (P := []) (M' := M) (L' := [some (.ref c), some (.int a1), some (.int a2), some (.int a3), some (.int a4), some (.int (M (c + 6) (((6 : Int32) * a2) + a4).toNatClampNeg)), none]) (st' := [.int (0 : Int32)]) (pc' := 47) kX0_mendEntries_46 rfl trivial rfl ?_
          refine Gx_goto (off := 12) (tgt := 59) (by decide +kernel) (by decide) ?_
          refine Gx_mask [true, true, true, true, true, true, false] (L' := [some (.ref c), some (.int a1), some (.int a2), some (.int a3), some (.int a4), some (.int (M (c + 6) (((6 : Int32) * a2) + a4).toNatClampNeg)), none]) rfl ?_
          exact tX0_mendEntries_59 h_c  hk4 hk15 M a1 a2 a3 a4 (M (c + 6) (((6 : Int32) * a2) + a4).toNatClampNeg) (0 : Int32) h
def lX0_mendEntries_4 (c : Nat) (Q : xM → Prop) : Nat → xM → Int32 → Int32 → Prop
  | 0 => fun _ _ _ => False
  | n + 1 => let k4 := lX0_mendEntries_4 c Q n; fun M a1 a2 =>
    ((((10 : Int32) ≤ a2) → (Q M)) ∧ ((¬ (10 : Int32) ≤ a2) → ((∃ n : Nat, lX0_mendEntries_15 c Q k4 n M a1 a2 (0 : Int32) (0 : Int32)))))
set_option maxHeartbeats 4000000 in
set_option maxRecDepth 100000 in
theorem tX0_mendEntries_4 {l : Launch} {E : xE} {c : Nat} {Q : xM → Prop} (h_c : xChk c) (n : Nat) : ∀ (M : xM) (a1 : Int32) (a2 : Int32), lX0_mendEntries_4 c Q n M a1 a2 → Gx l E mX0_mendEntries (xRv Q) 4 M [some (.ref c), some (.int a1), some (.int a2), none, none, none, none] [] := by
  induction n with
  | zero => intro M a1 a2 h; exact h.elim
  | succ n hk4 =>
      intro M a1 a2 h
      unfold lX0_mendEntries_4 at h
      dsimp only at h
      refine Gx_run (es := eX0_mendEntries_4) (P := []) (M' := M) (L' := [some (.ref c), some (.int a1), some (.int a2), none, none, none, none]) (st' := [.int (10 : Int32), .int a2]) (pc' := 7) kX0_mendEntries_4 rfl trivial rfl ?_
      refine Gx_icmp_ge (off := 130) (tgt := 137) (by decide +kernel) (by decide) (fun z => ?_) (fun z => ?_)
      · have h := h.1 z
        exact Gx_vret (by decide +kernel) rfl ⟨rfl, h⟩
      · have h := h.2 z
        refine Gx_run (es := eX0_mendEntries_10) (P := []) (M' := M) (L' := [some (.ref c), some (.int a1), some (.int a2), some (.int (0 : Int32)), some (.int (0 : Int32)), none, none]) (st' := []) (pc' := 15) kX0_mendEntries_10 rfl trivial rfl ?_
        refine Gx_mask [true, true, true, true, true, false, false] (L' := [some (.ref c), some (.int a1), some (.int a2), some (.int (0 : Int32)), some (.int (0 : Int32)), none, none]) rfl ?_
        obtain ⟨n, h⟩ := h
        exact tX0_mendEntries_15 h_c  hk4 n M a1 a2 (0 : Int32) (0 : Int32) h
def wX0_mendEntries (M : xM) (c : Nat) (Q : xM → Prop) : Prop :=
    (∃ n : Nat, lX0_mendEntries_4 c Q n M (0 : Int32) (0 : Int32))
set_option maxHeartbeats 4000000 in
set_option maxRecDepth 100000 in
theorem tX0_mendEntries {l : Launch} {E : xE} {M : xM} {c : Nat} {Q : xM → Prop} (h_c : xChk c) (h : wX0_mendEntries M c Q) : Ct l E mX0_mendEntries [.ref c] M (xRv Q) := by
  refine Ct_of (by decide +kernel) rfl (Nat.le_of_ble_eq_true rfl) ?_
  unfold wX0_mendEntries at h
  show Gx l E mX0_mendEntries (xRv Q) 0 M [some (.ref c), none, none, none, none, none, none] []
  refine Gx_run (es := eX0_mendEntries_0) (P := []) (M' := M) (L' := [some (.ref c), some (.int (0 : Int32)), some (.int (0 : Int32)), none, none, none, none]) (st' := []) (pc' := 4) kX0_mendEntries_0 rfl trivial rfl ?_
  refine Gx_mask [true, true, true, false, false, false, false] (L' := [some (.ref c), some (.int (0 : Int32)), some (.int (0 : Int32)), none, none, none, none]) rfl ?_
  obtain ⟨n, h⟩ := h
  exact tX0_mendEntries_4 h_c  n M (0 : Int32) (0 : Int32) h
def eX1_lengthAt_0 : List xI := [(.aload_n 0, 1, 0, 0, 0), (.iload_n 1, 1, 0, 0, 0)]
theorem kX1_lengthAt_0 : xcode (xmb mX1_lengthAt) (xmo mX1_lengthAt) 0 eX1_lengthAt_0 = true := by decide +kernel
def eX1_lengthAt_11 : List xI := [(.iconst 2, 1, 0, 0, (2)), (.iadd, 1, 0, 0, 0)]
theorem kX1_lengthAt_11 : xcode (xmb mX1_lengthAt) (xmo mX1_lengthAt) 11 eX1_lengthAt_11 = true := by decide +kernel
def wX1_lengthAt (M : xM) (p1 : Int32) (Q : Int32 → xM → Prop) : Prop :=
    wX1_signAt M p1 (fun r2 M2 => wX1_shapeOf M2 r2 (fun r5 M5 => (xStp r5) ∧ wJ0_length_8abf5 M5 r5 (fun r8 M8 => Q (r8 + (2 : Int32)) M8)))
set_option maxHeartbeats 4000000 in
set_option maxRecDepth 100000 in
theorem tX1_lengthAt {l : Launch} {E : xE} {M : xM} {p1 : Int32} {Q : Int32 → xM → Prop} (h : wX1_lengthAt M p1 Q) : Ct l E mX1_lengthAt [.ref 46, .int p1] M (xRi Q) := by
  refine Ct_of (by decide +kernel) rfl (Nat.le_of_ble_eq_true rfl) ?_
  unfold wX1_lengthAt at h
  show Gx l E mX1_lengthAt (xRi Q) 0 M [some (.ref 46), some (.int p1)] []
  refine Gx_run (es := eX1_lengthAt_0) (P := []) (M' := M) (L' := [some (.ref 46), some (.int p1)]) (st' := [.int p1, .ref 46]) (pc' := 2) kX1_lengthAt_0 rfl trivial rfl ?_
  refine Gx_callV (As := [.int p1]) (by decide +kernel) ml_1_19 okX1_signAt mvX1_signAt rfl (by decide) (Nat.le_of_ble_eq_true rfl) rfl rfl rfl (tX1_signAt h) (fun rr M2 qq => ?_)
  obtain ⟨r2, rfl, h⟩ := qq
  show Gx l E mX1_lengthAt _ 5 M2 [some (.ref 46), some (.int p1)] [.int r2]
  refine Gx_callS (As := [.int r2]) (by decide +kernel) ml_1_33 okX1_shapeOf mvX1_shapeOf rfl (by decide) (Nat.le_of_ble_eq_true rfl) (tX1_shapeOf h) (fun rr M5 qq => ?_)
  obtain ⟨r5, rfl, h⟩ := qq
  show Gx l E mX1_lengthAt _ 8 M5 [some (.ref 46), some (.int p1)] [.ref r5]
  obtain ⟨g8_0, h⟩ := h
  refine Gx_callTp (As := []) (by decide +kernel) ml_1_37 okJ0_length_8abf5 mvJ0_length_8abf5 rfl (by decide) (Nat.le_of_ble_eq_true rfl) g8_0 rfl (tJ0_length_8abf5 g8_0 h) (fun rr M8 qq => ?_)
  obtain ⟨r8, rfl, h⟩ := qq
  show Gx l E mX1_lengthAt _ 11 M8 [some (.ref 46), some (.int p1)] [.int r8]
  refine Gx_run (es := eX1_lengthAt_11) (P := []) (M' := M8) (L' := [some (.ref 46), some (.int p1)]) (st' := [.int (r8 + (2 : Int32))]) (pc' := 13) kX1_lengthAt_11 rfl trivial rfl ?_
  exact Gx_iret (by decide +kernel) rfl rfl ⟨_, rfl, h⟩
def eX1_pairAt_0 : List xI := [(.bipush 10, 2, 0, 0, (10)), (.aload_n 0, 1, 0, 0, 0), (.iload_n 1, 1, 0, 0, 0)]
theorem kX1_pairAt_0 : xcode (xmb mX1_pairAt) (xmo mX1_pairAt) 0 eX1_pairAt_0 = true := by decide +kernel
def eX1_pairAt_7 : List xI := [(.imul, 1, 0, 0, 0), (.aload_n 0, 1, 0, 0, 0), (.iload_n 1, 1, 0, 0, 0), (.iconst 1, 1, 0, 0, (1)), (.iadd, 1, 0, 0, 0)]
theorem kX1_pairAt_7 : xcode (xmb mX1_pairAt) (xmo mX1_pairAt) 7 eX1_pairAt_7 = true := by decide +kernel
def eX1_pairAt_15 : List xI := [(.iadd, 1, 0, 0, 0)]
theorem kX1_pairAt_15 : xcode (xmb mX1_pairAt) (xmo mX1_pairAt) 15 eX1_pairAt_15 = true := by decide +kernel
def wX1_pairAt (M : xM) (p1 : Int32) (Q : Int32 → xM → Prop) : Prop :=
    wX1_digitAt M p1 (fun r4 M4 => wX1_digitAt M4 (p1 + (1 : Int32)) (fun r12 M12 => Q (((10 : Int32) * r4) + r12) M12))
set_option maxHeartbeats 4000000 in
set_option maxRecDepth 100000 in
theorem tX1_pairAt {l : Launch} {E : xE} {M : xM} {p1 : Int32} {Q : Int32 → xM → Prop} (h : wX1_pairAt M p1 Q) : Ct l E mX1_pairAt [.ref 46, .int p1] M (xRi Q) := by
  refine Ct_of (by decide +kernel) rfl (Nat.le_of_ble_eq_true rfl) ?_
  unfold wX1_pairAt at h
  show Gx l E mX1_pairAt (xRi Q) 0 M [some (.ref 46), some (.int p1)] []
  refine Gx_run (es := eX1_pairAt_0) (P := []) (M' := M) (L' := [some (.ref 46), some (.int p1)]) (st' := [.int p1, .ref 46, .int (10 : Int32)]) (pc' := 4) kX1_pairAt_0 rfl trivial rfl ?_
  refine Gx_callV (As := [.int p1]) (by decide +kernel) ml_1_23 okX1_digitAt mvX1_digitAt rfl (by decide) (Nat.le_of_ble_eq_true rfl) rfl rfl rfl (tX1_digitAt h) (fun rr M4 qq => ?_)
  obtain ⟨r4, rfl, h⟩ := qq
  show Gx l E mX1_pairAt _ 7 M4 [some (.ref 46), some (.int p1)] [.int r4, .int (10 : Int32)]
  refine Gx_run (es := eX1_pairAt_7) (P := []) (M' := M4) (L' := [some (.ref 46), some (.int p1)]) (st' := [.int (p1 + (1 : Int32)), .ref 46, .int ((10 : Int32) * r4)]) (pc' := 12) kX1_pairAt_7 rfl trivial rfl ?_
  refine Gx_callV (As := [.int (p1 + (1 : Int32))]) (by decide +kernel) ml_1_23 okX1_digitAt mvX1_digitAt rfl (by decide) (Nat.le_of_ble_eq_true rfl) rfl rfl rfl (tX1_digitAt h) (fun rr M12 qq => ?_)
  obtain ⟨r12, rfl, h⟩ := qq
  show Gx l E mX1_pairAt _ 15 M12 [some (.ref 46), some (.int p1)] [.int r12, .int ((10 : Int32) * r4)]
  refine Gx_run (es := eX1_pairAt_15) (P := []) (M' := M12) (L' := [some (.ref 46), some (.int p1)]) (st' := [.int (((10 : Int32) * r4) + r12)]) (pc' := 16) kX1_pairAt_15 rfl trivial rfl ?_
  exact Gx_iret (by decide +kernel) rfl rfl ⟨_, rfl, h⟩
def eX2_blocksOf_0 : List xI := [(.iconst 0, 1, 0, 0, (0)), (.istore_n 2, 1, 0, 0, 0), (.iconst 0, 1, 0, 0, (0)), (.istore_n 3, 1, 0, 0, 0)]
theorem kX2_blocksOf_0 : xcode (xmb mX2_blocksOf) (xmo mX2_blocksOf) 0 eX2_blocksOf_0 = true := by decide +kernel
def eX2_blocksOf_4 : List xI := [(.iload_n 3, 1, 0, 0, 0), (.iconst 3, 1, 0, 0, (3))]
theorem kX2_blocksOf_4 : xcode (xmb mX2_blocksOf) (xmo mX2_blocksOf) 4 eX2_blocksOf_4 = true := by decide +kernel
def eX2_blocksOf_24 : List xI := [(.iload_n 2, 1, 0, 0, 0)]
theorem kX2_blocksOf_24 : xcode (xmb mX2_blocksOf) (xmo mX2_blocksOf) 24 eX2_blocksOf_24 = true := by decide +kernel
def eX2_blocksOf_9 : List xI := [(.iload_n 2, 1, 0, 0, 0), (.aload_n 0, 1, 0, 0, 0), (.iload_n 1, 1, 0, 0, 0), (.iload_n 3, 1, 0, 0, 0)]
theorem kX2_blocksOf_9 : xcode (xmb mX2_blocksOf) (xmo mX2_blocksOf) 9 eX2_blocksOf_9 = true := by decide +kernel
def eX2_blocksOf_16 : List xI := [(.ior, 1, 0, 0, 0), (.istore_n 2, 1, 0, 0, 0), (.iinc 3 1, 3, 0, 0, (1))]
theorem kX2_blocksOf_16 : xcode (xmb mX2_blocksOf) (xmo mX2_blocksOf) 16 eX2_blocksOf_16 = true := by decide +kernel
def lX2_blocksOf_4 (v : Nat) (p1 : Int32) (Q : Int32 → xM → Prop) : Nat → xM → Int32 → Int32 → Prop
  | 0 => fun _ _ _ => False
  | n + 1 => let k4 := lX2_blocksOf_4 v p1 Q n; fun M a2 a3 =>
    ((((3 : Int32) ≤ a3) → (Q a2 M)) ∧ ((¬ (3 : Int32) ≤ a3) → (wX2_blockOf M v p1 a3 (fun r13 M13 => k4 M13 (a2 ||| r13) (a3 + (1 : Int32))))))
set_option maxHeartbeats 4000000 in
set_option maxRecDepth 100000 in
theorem tX2_blocksOf_4 {l : Launch} {E : xE} {v : Nat} {p1 : Int32} {Q : Int32 → xM → Prop} (h_v : xVol v) (n : Nat) : ∀ (M : xM) (a2 : Int32) (a3 : Int32), lX2_blocksOf_4 v p1 Q n M a2 a3 → Gx l E mX2_blocksOf (xRi Q) 4 M [some (.ref v), some (.int p1), some (.int a2), some (.int a3)] [] := by
  induction n with
  | zero => intro M a2 a3 h; exact h.elim
  | succ n hk4 =>
      intro M a2 a3 h
      unfold lX2_blocksOf_4 at h
      dsimp only at h
      refine Gx_run (es := eX2_blocksOf_4) (P := []) (M' := M) (L' := [some (.ref v), some (.int p1), some (.int a2), some (.int a3)]) (st' := [.int (3 : Int32), .int a3]) (pc' := 6) kX2_blocksOf_4 rfl trivial rfl ?_
      refine Gx_icmp_ge (off := 18) (tgt := 24) (by decide +kernel) (by decide) (fun z => ?_) (fun z => ?_)
      · have h := h.1 z
        refine Gx_run (es := eX2_blocksOf_24) (P := []) (M' := M) (L' := [some (.ref v), some (.int p1), some (.int a2), some (.int a3)]) (st' := [.int a2]) (pc' := 25) kX2_blocksOf_24 rfl trivial rfl ?_
        exact Gx_iret (by decide +kernel) rfl rfl ⟨_, rfl, h⟩
      · have h := h.2 z
        refine Gx_run (es := eX2_blocksOf_9) (P := []) (M' := M) (L' := [some (.ref v), some (.int p1), some (.int a2), some (.int a3)]) (st' := [.int a3, .int p1, .ref v, .int a2]) (pc' := 13) kX2_blocksOf_9 rfl trivial rfl ?_
        refine Gx_callV (As := [.int p1, .int a3]) (by decide +kernel) ml_2_57 okX2_blockOf mvX2_blockOf rfl (by decide) (Nat.le_of_ble_eq_true rfl) (xVol_0 h_v) rfl rfl (tX2_blockOf h_v h) (fun rr M13 qq => ?_)
        obtain ⟨r13, rfl, h⟩ := qq
        show Gx l E mX2_blocksOf _ 16 M13 [some (.ref v), some (.int p1), some (.int a2), some (.int a3)] [.int r13, .int a2]
        refine Gx_run (es := eX2_blocksOf_16) (P := []) (M' := M13) (L' := [some (.ref v), some (.int p1), some (.int (a2 ||| r13)), some (.int (a3 + (1 : Int32)))]) (st' := []) (pc' := 21) kX2_blocksOf_16 rfl trivial rfl ?_
        refine Gx_goto (off := -17) (tgt := 4) (by decide +kernel) (by decide) ?_
        refine Gx_mask [true, true, true, true] (L' := [some (.ref v), some (.int p1), some (.int (a2 ||| r13)), some (.int (a3 + (1 : Int32)))]) rfl ?_
        exact hk4 M13 (a2 ||| r13) (a3 + (1 : Int32)) h
def wX2_blocksOf (M : xM) (v : Nat) (p1 : Int32) (Q : Int32 → xM → Prop) : Prop :=
    (∃ n : Nat, lX2_blocksOf_4 v p1 Q n M (0 : Int32) (0 : Int32))
set_option maxHeartbeats 4000000 in
set_option maxRecDepth 100000 in
theorem tX2_blocksOf {l : Launch} {E : xE} {M : xM} {v : Nat} {p1 : Int32} {Q : Int32 → xM → Prop} (h_v : xVol v) (h : wX2_blocksOf M v p1 Q) : Ct l E mX2_blocksOf [.ref v, .int p1] M (xRi Q) := by
  refine Ct_of (by decide +kernel) rfl (Nat.le_of_ble_eq_true rfl) ?_
  unfold wX2_blocksOf at h
  show Gx l E mX2_blocksOf (xRi Q) 0 M [some (.ref v), some (.int p1), none, none] []
  refine Gx_run (es := eX2_blocksOf_0) (P := []) (M' := M) (L' := [some (.ref v), some (.int p1), some (.int (0 : Int32)), some (.int (0 : Int32))]) (st' := []) (pc' := 4) kX2_blocksOf_0 rfl trivial rfl ?_
  refine Gx_mask [true, true, true, true] (L' := [some (.ref v), some (.int p1), some (.int (0 : Int32)), some (.int (0 : Int32))]) rfl ?_
  obtain ⟨n, h⟩ := h
  exact tX2_blocksOf_4 h_v  n M (0 : Int32) (0 : Int32) h
def eX2_blocksShared_0 : List xI := [(.iconst 0, 1, 0, 0, (0)), (.istore_n 1, 1, 0, 0, 0), (.iconst 0, 1, 0, 0, (0)), (.istore_n 2, 1, 0, 0, 0), (.iconst 0, 1, 0, 0, (0)), (.istore_n 3, 1, 0, 0, 0)]
theorem kX2_blocksShared_0 : xcode (xmb mX2_blocksShared) (xmo mX2_blocksShared) 0 eX2_blocksShared_0 = true := by decide +kernel
def eX2_blocksShared_6 : List xI := [(.iload_n 3, 1, 0, 0, 0), (.bipush 10, 2, 0, 0, (10))]
theorem kX2_blocksShared_6 : xcode (xmb mX2_blocksShared) (xmo mX2_blocksShared) 6 eX2_blocksShared_6 = true := by decide +kernel
def eX2_blocksShared_54 : List xI := [(.iload_n 2, 1, 0, 0, 0)]
theorem kX2_blocksShared_54 : xcode (xmb mX2_blocksShared) (xmo mX2_blocksShared) 54 eX2_blocksShared_54 = true := by decide +kernel
def eX2_blocksShared_12 : List xI := [(.iconst 0, 1, 0, 0, (0)), (.istore 4, 2, 0, 0, 0)]
theorem kX2_blocksShared_12 : xcode (xmb mX2_blocksShared) (xmo mX2_blocksShared) 12 eX2_blocksShared_12 = true := by decide +kernel
def eX2_blocksShared_15 : List xI := [(.iload 4, 2, 0, 0, 0), (.iconst 3, 1, 0, 0, (3))]
theorem kX2_blocksShared_15 : xcode (xmb mX2_blocksShared) (xmo mX2_blocksShared) 15 eX2_blocksShared_15 = true := by decide +kernel
def eX2_blocksShared_48 : List xI := [(.iinc 3 1, 3, 0, 0, (1))]
theorem kX2_blocksShared_48 : xcode (xmb mX2_blocksShared) (xmo mX2_blocksShared) 48 eX2_blocksShared_48 = true := by decide +kernel
def eX2_blocksShared_21 : List xI := [(.aload_n 0, 1, 0, 0, 0), (.iload_n 3, 1, 0, 0, 0), (.iload 4, 2, 0, 0, 0)]
theorem kX2_blocksShared_21 : xcode (xmb mX2_blocksShared) (xmo mX2_blocksShared) 21 eX2_blocksShared_21 = true := by decide +kernel
def eX2_blocksShared_28 : List xI := [(.istore 5, 2, 0, 0, 0), (.iload_n 2, 1, 0, 0, 0), (.iload_n 1, 1, 0, 0, 0), (.iload 5, 2, 0, 0, 0), (.iand, 1, 0, 0, 0), (.ior, 1, 0, 0, 0), (.istore_n 2, 1, 0, 0, 0), (.iload_n 1, 1, 0, 0, 0), (.iload 5, 2, 0, 0, 0), (.ior, 1, 0, 0, 0), (.istore_n 1, 1, 0, 0, 0), (.iinc 4 1, 3, 0, 0, (1))]
theorem kX2_blocksShared_28 : xcode (xmb mX2_blocksShared) (xmo mX2_blocksShared) 28 eX2_blocksShared_28 = true := by decide +kernel
def lX2_blocksShared_15 (v : Nat) (Q : Int32 → xM → Prop) (k6 : xM → Int32 → Int32 → Int32 → Prop) : Nat → xM → Int32 → Int32 → Int32 → Int32 → Prop
  | 0 => fun _ _ _ _ _ => False
  | n + 1 => let k15 := lX2_blocksShared_15 v Q k6 n; fun M a1 a2 a3 a4 =>
    ((((3 : Int32) ≤ a4) → (k6 M a1 a2 (a3 + (1 : Int32)))) ∧ ((¬ (3 : Int32) ≤ a4) → (wX2_blockOf M v a3 a4 (fun r25 M25 => k15 M25 (a1 ||| r25) (a2 ||| (a1 &&& r25)) a3 (a4 + (1 : Int32))))))
set_option maxHeartbeats 4000000 in
set_option maxRecDepth 100000 in
theorem tX2_blocksShared_15 {l : Launch} {E : xE} {v : Nat} {Q : Int32 → xM → Prop} {k6 : xM → Int32 → Int32 → Int32 → Prop} (h_v : xVol v) (hk6 : ∀ (M : xM) (a1 : Int32) (a2 : Int32) (a3 : Int32), k6 M a1 a2 a3 → Gx l E mX2_blocksShared (xRi Q) 6 M [some (.ref v), some (.int a1), some (.int a2), some (.int a3), none, none] []) (n : Nat) : ∀ (M : xM) (a1 : Int32) (a2 : Int32) (a3 : Int32) (a4 : Int32), lX2_blocksShared_15 v Q k6 n M a1 a2 a3 a4 → Gx l E mX2_blocksShared (xRi Q) 15 M [some (.ref v), some (.int a1), some (.int a2), some (.int a3), some (.int a4), none] [] := by
  induction n with
  | zero => intro M a1 a2 a3 a4 h; exact h.elim
  | succ n hk15 =>
      intro M a1 a2 a3 a4 h
      unfold lX2_blocksShared_15 at h
      dsimp only at h
      refine Gx_run (es := eX2_blocksShared_15) (P := []) (M' := M) (L' := [some (.ref v), some (.int a1), some (.int a2), some (.int a3), some (.int a4), none]) (st' := [.int (3 : Int32), .int a4]) (pc' := 18) kX2_blocksShared_15 rfl trivial rfl ?_
      refine Gx_icmp_ge (off := 30) (tgt := 48) (by decide +kernel) (by decide) (fun z => ?_) (fun z => ?_)
      · have h := h.1 z
        refine Gx_run (es := eX2_blocksShared_48) (P := []) (M' := M) (L' := [some (.ref v), some (.int a1), some (.int a2), some (.int (a3 + (1 : Int32))), some (.int a4), none]) (st' := []) (pc' := 51) kX2_blocksShared_48 rfl trivial rfl ?_
        refine Gx_goto (off := -45) (tgt := 6) (by decide +kernel) (by decide) ?_
        refine Gx_mask [true, true, true, true, false, false] (L' := [some (.ref v), some (.int a1), some (.int a2), some (.int (a3 + (1 : Int32))), none, none]) rfl ?_
        exact hk6 M a1 a2 (a3 + (1 : Int32)) h
      · have h := h.2 z
        refine Gx_run (es := eX2_blocksShared_21) (P := []) (M' := M) (L' := [some (.ref v), some (.int a1), some (.int a2), some (.int a3), some (.int a4), none]) (st' := [.int a4, .int a3, .ref v]) (pc' := 25) kX2_blocksShared_21 rfl trivial rfl ?_
        refine Gx_callV (As := [.int a3, .int a4]) (by decide +kernel) ml_2_57 okX2_blockOf mvX2_blockOf rfl (by decide) (Nat.le_of_ble_eq_true rfl) (xVol_0 h_v) rfl rfl (tX2_blockOf h_v h) (fun rr M25 qq => ?_)
        obtain ⟨r25, rfl, h⟩ := qq
        show Gx l E mX2_blocksShared _ 28 M25 [some (.ref v), some (.int a1), some (.int a2), some (.int a3), some (.int a4), none] [.int r25]
        refine Gx_run (es := eX2_blocksShared_28) (P := []) (M' := M25) (L' := [some (.ref v), some (.int (a1 ||| r25)), some (.int (a2 ||| (a1 &&& r25))), some (.int a3), some (.int (a4 + (1 : Int32))), some (.int r25)]) (st' := []) (pc' := 45) kX2_blocksShared_28 rfl trivial rfl ?_
        refine Gx_goto (off := -30) (tgt := 15) (by decide +kernel) (by decide) ?_
        refine Gx_mask [true, true, true, true, true, false] (L' := [some (.ref v), some (.int (a1 ||| r25)), some (.int (a2 ||| (a1 &&& r25))), some (.int a3), some (.int (a4 + (1 : Int32))), none]) rfl ?_
        exact hk15 M25 (a1 ||| r25) (a2 ||| (a1 &&& r25)) a3 (a4 + (1 : Int32)) h
def lX2_blocksShared_6 (v : Nat) (Q : Int32 → xM → Prop) : Nat → xM → Int32 → Int32 → Int32 → Prop
  | 0 => fun _ _ _ _ => False
  | n + 1 => let k6 := lX2_blocksShared_6 v Q n; fun M a1 a2 a3 =>
    ((((10 : Int32) ≤ a3) → (Q a2 M)) ∧ ((¬ (10 : Int32) ≤ a3) → ((∃ n : Nat, lX2_blocksShared_15 v Q k6 n M a1 a2 a3 (0 : Int32)))))
set_option maxHeartbeats 4000000 in
set_option maxRecDepth 100000 in
theorem tX2_blocksShared_6 {l : Launch} {E : xE} {v : Nat} {Q : Int32 → xM → Prop} (h_v : xVol v) (n : Nat) : ∀ (M : xM) (a1 : Int32) (a2 : Int32) (a3 : Int32), lX2_blocksShared_6 v Q n M a1 a2 a3 → Gx l E mX2_blocksShared (xRi Q) 6 M [some (.ref v), some (.int a1), some (.int a2), some (.int a3), none, none] [] := by
  induction n with
  | zero => intro M a1 a2 a3 h; exact h.elim
  | succ n hk6 =>
      intro M a1 a2 a3 h
      unfold lX2_blocksShared_6 at h
      dsimp only at h
      refine Gx_run (es := eX2_blocksShared_6) (P := []) (M' := M) (L' := [some (.ref v), some (.int a1), some (.int a2), some (.int a3), none, none]) (st' := [.int (10 : Int32), .int a3]) (pc' := 9) kX2_blocksShared_6 rfl trivial rfl ?_
      refine Gx_icmp_ge (off := 45) (tgt := 54) (by decide +kernel) (by decide) (fun z => ?_) (fun z => ?_)
      · have h := h.1 z
        refine Gx_run (es := eX2_blocksShared_54) (P := []) (M' := M) (L' := [some (.ref v), some (.int a1), some (.int a2), some (.int a3), none, none]) (st' := [.int a2]) (pc' := 55) kX2_blocksShared_54 rfl trivial rfl ?_
        exact Gx_iret (by decide +kernel) rfl rfl ⟨_, rfl, h⟩
      · have h := h.2 z
        refine Gx_run (es := eX2_blocksShared_12) (P := []) (M' := M) (L' := [some (.ref v), some (.int a1), some (.int a2), some (.int a3), some (.int (0 : Int32)), none]) (st' := []) (pc' := 15) kX2_blocksShared_12 rfl trivial rfl ?_
        refine Gx_mask [true, true, true, true, true, false] (L' := [some (.ref v), some (.int a1), some (.int a2), some (.int a3), some (.int (0 : Int32)), none]) rfl ?_
        obtain ⟨n, h⟩ := h
        exact tX2_blocksShared_15 h_v  hk6 n M a1 a2 a3 (0 : Int32) h
def wX2_blocksShared (M : xM) (v : Nat) (Q : Int32 → xM → Prop) : Prop :=
    (∃ n : Nat, lX2_blocksShared_6 v Q n M (0 : Int32) (0 : Int32) (0 : Int32))
set_option maxHeartbeats 4000000 in
set_option maxRecDepth 100000 in
theorem tX2_blocksShared {l : Launch} {E : xE} {M : xM} {v : Nat} {Q : Int32 → xM → Prop} (h_v : xVol v) (h : wX2_blocksShared M v Q) : Ct l E mX2_blocksShared [.ref v] M (xRi Q) := by
  refine Ct_of (by decide +kernel) rfl (Nat.le_of_ble_eq_true rfl) ?_
  unfold wX2_blocksShared at h
  show Gx l E mX2_blocksShared (xRi Q) 0 M [some (.ref v), none, none, none, none, none] []
  refine Gx_run (es := eX2_blocksShared_0) (P := []) (M' := M) (L' := [some (.ref v), some (.int (0 : Int32)), some (.int (0 : Int32)), some (.int (0 : Int32)), none, none]) (st' := []) (pc' := 6) kX2_blocksShared_0 rfl trivial rfl ?_
  refine Gx_mask [true, true, true, true, false, false] (L' := [some (.ref v), some (.int (0 : Int32)), some (.int (0 : Int32)), some (.int (0 : Int32)), none, none]) rfl ?_
  obtain ⟨n, h⟩ := h
  exact tX2_blocksShared_6 h_v  n M (0 : Int32) (0 : Int32) (0 : Int32) h
def eX2_depthOf_0 : List xI := [(.aload_n 0, 1, 0, 0, 0), (.getfield 9, 3, 2, 0, 0), (.iload_n 1, 1, 0, 0, 0), (.iaload, 1, 0, 0, 0)]
theorem kX2_depthOf_0 : xcode (xmb mX2_depthOf) (xmo mX2_depthOf) 0 eX2_depthOf_0 = true := by decide +kernel
def eX2_depthOf_12 : List xI := [(.iconst 1, 1, 0, 0, (1)), (.istore_n 2, 1, 0, 0, 0), (.iconst 0, 1, 0, 0, (0)), (.istore_n 3, 1, 0, 0, 0)]
theorem kX2_depthOf_12 : xcode (xmb mX2_depthOf) (xmo mX2_depthOf) 12 eX2_depthOf_12 = true := by decide +kernel
def eX2_depthOf_16 : List xI := [(.iload_n 3, 1, 0, 0, 0), (.bipush 10, 2, 0, 0, (10))]
theorem kX2_depthOf_16 : xcode (xmb mX2_depthOf) (xmo mX2_depthOf) 16 eX2_depthOf_16 = true := by decide +kernel
def eX2_depthOf_46 : List xI := [(.bipush (-9), 2, 0, 0, (-9))]
theorem kX2_depthOf_46 : xcode (xmb mX2_depthOf) (xmo mX2_depthOf) 46 eX2_depthOf_46 = true := by decide +kernel
def eX2_depthOf_22 : List xI := [(.iload_n 2, 1, 0, 0, 0), (.iload_n 1, 1, 0, 0, 0), (.ishr, 1, 0, 0, 0), (.iconst 1, 1, 0, 0, (1)), (.iand, 1, 0, 0, 0)]
theorem kX2_depthOf_22 : xcode (xmb mX2_depthOf) (xmo mX2_depthOf) 22 eX2_depthOf_22 = true := by decide +kernel
def eX2_depthOf_32 : List xI := [(.iload_n 2, 1, 0, 0, 0), (.aload_n 0, 1, 0, 0, 0), (.iload_n 2, 1, 0, 0, 0)]
theorem kX2_depthOf_32 : xcode (xmb mX2_depthOf) (xmo mX2_depthOf) 32 eX2_depthOf_32 = true := by decide +kernel
def eX2_depthOf_38 : List xI := [(.ior, 1, 0, 0, 0), (.istore_n 2, 1, 0, 0, 0), (.iinc 3 1, 3, 0, 0, (1))]
theorem kX2_depthOf_38 : xcode (xmb mX2_depthOf) (xmo mX2_depthOf) 38 eX2_depthOf_38 = true := by decide +kernel
def eX2_depthOf_30 : List xI := [(.iload_n 3, 1, 0, 0, 0)]
theorem kX2_depthOf_30 : xcode (xmb mX2_depthOf) (xmo mX2_depthOf) 30 eX2_depthOf_30 = true := by decide +kernel
def eX2_depthOf_9 : List xI := [(.bipush (-9), 2, 0, 0, (-9))]
theorem kX2_depthOf_9 : xcode (xmb mX2_depthOf) (xmo mX2_depthOf) 9 eX2_depthOf_9 = true := by decide +kernel
def lX2_depthOf_16 (v : Nat) (p1 : Int32) (Q : Int32 → xM → Prop) : Nat → xM → Int32 → Int32 → Prop
  | 0 => fun _ _ _ => False
  | n + 1 => let k16 := lX2_depthOf_16 v p1 Q n; fun M a2 a3 =>
    ((((10 : Int32) ≤ a3) → (Q (-9 : Int32) M)) ∧ ((¬ (10 : Int32) ≤ a3) → ((((((a2 >>> (p1 &&& 31)) &&& (1 : Int32)) = 0) → (wX2_enteredByThese M v a2 (fun r35 M35 => k16 M35 (a2 ||| r35) (a3 + (1 : Int32))))) ∧ ((¬ ((a2 >>> (p1 &&& 31)) &&& (1 : Int32)) = 0) → (Q a3 M))))))
set_option maxHeartbeats 4000000 in
set_option maxRecDepth 100000 in
theorem tX2_depthOf_16 {l : Launch} {E : xE} {v : Nat} {p1 : Int32} {Q : Int32 → xM → Prop} (h_v : xVol v) (n : Nat) : ∀ (M : xM) (a2 : Int32) (a3 : Int32), lX2_depthOf_16 v p1 Q n M a2 a3 → Gx l E mX2_depthOf (xRi Q) 16 M [some (.ref v), some (.int p1), some (.int a2), some (.int a3)] [] := by
  induction n with
  | zero => intro M a2 a3 h; exact h.elim
  | succ n hk16 =>
      intro M a2 a3 h
      unfold lX2_depthOf_16 at h
      dsimp only at h
      refine Gx_run (es := eX2_depthOf_16) (P := []) (M' := M) (L' := [some (.ref v), some (.int p1), some (.int a2), some (.int a3)]) (st' := [.int (10 : Int32), .int a3]) (pc' := 19) kX2_depthOf_16 rfl trivial rfl ?_
      refine Gx_icmp_ge (off := 27) (tgt := 46) (by decide +kernel) (by decide) (fun z => ?_) (fun z => ?_)
      · have h := h.1 z
        refine Gx_run (es := eX2_depthOf_46) (P := []) (M' := M) (L' := [some (.ref v), some (.int p1), some (.int a2), some (.int a3)]) (st' := [.int (-9 : Int32)]) (pc' := 48) kX2_depthOf_46 rfl trivial rfl ?_
        exact Gx_iret (by decide +kernel) rfl rfl ⟨_, rfl, h⟩
      · have h := h.2 z
        refine Gx_run (es := eX2_depthOf_22) (P := []) (M' := M) (L' := [some (.ref v), some (.int p1), some (.int a2), some (.int a3)]) (st' := [.int ((a2 >>> (p1 &&& 31)) &&& (1 : Int32))]) (pc' := 27) kX2_depthOf_22 rfl trivial rfl ?_
        refine Gx_if_eq (off := 5) (tgt := 32) (by decide +kernel) (by decide) (fun z => ?_) (fun z => ?_)
        · have h := h.1 z
          refine Gx_run (es := eX2_depthOf_32) (P := []) (M' := M) (L' := [some (.ref v), some (.int p1), some (.int a2), some (.int a3)]) (st' := [.int a2, .ref v, .int a2]) (pc' := 35) kX2_depthOf_32 rfl trivial rfl ?_
          refine Gx_callV (As := [.int a2]) (by decide +kernel) ml_2_77 okX2_enteredByThese mvX2_enteredByThese rfl (by decide) (Nat.le_of_ble_eq_true rfl) (xVol_0 h_v) rfl rfl (tX2_enteredByThese h_v h) (fun rr M35 qq => ?_)
          obtain ⟨r35, rfl, h⟩ := qq
          show Gx l E mX2_depthOf _ 38 M35 [some (.ref v), some (.int p1), some (.int a2), some (.int a3)] [.int r35, .int a2]
          refine Gx_run (es := eX2_depthOf_38) (P := []) (M' := M35) (L' := [some (.ref v), some (.int p1), some (.int (a2 ||| r35)), some (.int (a3 + (1 : Int32)))]) (st' := []) (pc' := 43) kX2_depthOf_38 rfl trivial rfl ?_
          refine Gx_goto (off := -27) (tgt := 16) (by decide +kernel) (by decide) ?_
          refine Gx_mask [true, true, true, true] (L' := [some (.ref v), some (.int p1), some (.int (a2 ||| r35)), some (.int (a3 + (1 : Int32)))]) rfl ?_
          exact hk16 M35 (a2 ||| r35) (a3 + (1 : Int32)) h
        · have h := h.2 z
          refine Gx_run (es := eX2_depthOf_30) (P := []) (M' := M) (L' := [some (.ref v), some (.int p1), some (.int a2), some (.int a3)]) (st' := [.int a3]) (pc' := 31) kX2_depthOf_30 rfl trivial rfl ?_
          exact Gx_iret (by decide +kernel) rfl rfl ⟨_, rfl, h⟩
def wX2_depthOf (M : xM) (v : Nat) (p1 : Int32) (Q : Int32 → xM → Prop) : Prop :=
    (vp_in p1 10) ∧ (((¬ (M (v + 1) p1.toNatClampNeg) = 0) → ((∃ n : Nat, lX2_depthOf_16 v p1 Q n M (1 : Int32) (0 : Int32)))) ∧ (((M (v + 1) p1.toNatClampNeg) = 0) → (Q (-9 : Int32) M)))
set_option maxHeartbeats 4000000 in
set_option maxRecDepth 100000 in
theorem tX2_depthOf {l : Launch} {E : xE} {M : xM} {v : Nat} {p1 : Int32} {Q : Int32 → xM → Prop} (h_v : xVol v) (h : wX2_depthOf M v p1 Q) : Ct l E mX2_depthOf [.ref v, .int p1] M (xRi Q) := by
  refine Ct_of (by decide +kernel) rfl (Nat.le_of_ble_eq_true rfl) ?_
  unfold wX2_depthOf at h
  show Gx l E mX2_depthOf (xRi Q) 0 M [some (.ref v), some (.int p1), none, none] []
  obtain ⟨g0_0, h⟩ := h
  refine Gx_run (es := eX2_depthOf_0) (P := [xkd v = 2, xkd (v + 1) = 5, vp_in p1 (xln (v + 1))]) (M' := M) (L' := [some (.ref v), some (.int p1), none, none]) (st' := [.int (M (v + 1) p1.toNatClampNeg)]) (pc' := 6) kX2_depthOf_0 rfl ⟨(xVol_0 h_v), (xVol_1 h_v), (by rw [xVol_l1 h_v]; exact g0_0), trivial⟩ rfl ?_
  refine Gx_if_ne (off := 6) (tgt := 12) (by decide +kernel) (by decide) (fun z => ?_) (fun z => ?_)
  · have h := h.1 z
    refine Gx_run (es := eX2_depthOf_12) (P := []) (M' := M) (L' := [some (.ref v), some (.int p1), some (.int (1 : Int32)), some (.int (0 : Int32))]) (st' := []) (pc' := 16) kX2_depthOf_12 rfl trivial rfl ?_
    refine Gx_mask [true, true, true, true] (L' := [some (.ref v), some (.int p1), some (.int (1 : Int32)), some (.int (0 : Int32))]) rfl ?_
    obtain ⟨n, h⟩ := h
    exact tX2_depthOf_16 h_v  n M (1 : Int32) (0 : Int32) h
  · have h := h.2 z
    refine Gx_run (es := eX2_depthOf_9) (P := []) (M' := M) (L' := [some (.ref v), some (.int p1), none, none]) (st' := [.int (-9 : Int32)]) (pc' := 11) kX2_depthOf_9 rfl trivial rfl ?_
    exact Gx_iret (by decide +kernel) rfl rfl ⟨_, rfl, h⟩
def eX2_reachedFrom_0 : List xI := [(.iconst 1, 1, 0, 0, (1)), (.iload_n 1, 1, 0, 0, 0), (.ishl, 1, 0, 0, 0), (.istore_n 2, 1, 0, 0, 0), (.iload_n 2, 1, 0, 0, 0), (.istore_n 3, 1, 0, 0, 0), (.iconst 0, 1, 0, 0, (0)), (.istore 4, 2, 0, 0, 0)]
theorem kX2_reachedFrom_0 : xcode (xmb mX2_reachedFrom) (xmo mX2_reachedFrom) 0 eX2_reachedFrom_0 = true := by decide +kernel
def eX2_reachedFrom_9 : List xI := [(.iload 4, 2, 0, 0, 0), (.bipush 10, 2, 0, 0, (10))]
theorem kX2_reachedFrom_9 : xcode (xmb mX2_reachedFrom) (xmo mX2_reachedFrom) 9 eX2_reachedFrom_9 = true := by decide +kernel
def eX2_reachedFrom_40 : List xI := [(.iload_n 2, 1, 0, 0, 0)]
theorem kX2_reachedFrom_40 : xcode (xmb mX2_reachedFrom) (xmo mX2_reachedFrom) 40 eX2_reachedFrom_40 = true := by decide +kernel
def eX2_reachedFrom_16 : List xI := [(.iload_n 3, 1, 0, 0, 0)]
theorem kX2_reachedFrom_16 : xcode (xmb mX2_reachedFrom) (xmo mX2_reachedFrom) 16 eX2_reachedFrom_16 = true := by decide +kernel
def eX2_reachedFrom_20 : List xI := [(.aload_n 0, 1, 0, 0, 0), (.iload_n 3, 1, 0, 0, 0)]
theorem kX2_reachedFrom_20 : xcode (xmb mX2_reachedFrom) (xmo mX2_reachedFrom) 20 eX2_reachedFrom_20 = true := by decide +kernel
def eX2_reachedFrom_25 : List xI := [(.iload_n 2, 1, 0, 0, 0), (.iconst (-1), 1, 0, 0, (-1)), (.ixor, 1, 0, 0, 0), (.iand, 1, 0, 0, 0), (.istore_n 3, 1, 0, 0, 0), (.iload_n 2, 1, 0, 0, 0), (.iload_n 3, 1, 0, 0, 0), (.ior, 1, 0, 0, 0), (.istore_n 2, 1, 0, 0, 0), (.iinc 4 1, 3, 0, 0, (1))]
theorem kX2_reachedFrom_25 : xcode (xmb mX2_reachedFrom) (xmo mX2_reachedFrom) 25 eX2_reachedFrom_25 = true := by decide +kernel
def wX2_reachedFrom_40 (v : Nat) (p1 : Int32) (Q : Int32 → xM → Prop) (M : xM) (a2 : Int32) : Prop :=
    Q a2 M
set_option maxHeartbeats 4000000 in
set_option maxRecDepth 100000 in
theorem tX2_reachedFrom_40 {l : Launch} {E : xE} {v : Nat} {p1 : Int32} {Q : Int32 → xM → Prop} (h_v : xVol v) (M : xM) (a2 : Int32) (h : wX2_reachedFrom_40 v p1 Q M a2) : Gx l E mX2_reachedFrom (xRi Q) 40 M [none, none, some (.int a2), none, none] [] := by
  unfold wX2_reachedFrom_40 at h
  refine Gx_run (es := eX2_reachedFrom_40) (P := []) (M' := M) (L' := [none, none, some (.int a2), none, none]) (st' := [.int a2]) (pc' := 41) kX2_reachedFrom_40 rfl trivial rfl ?_
  exact Gx_iret (by decide +kernel) rfl rfl ⟨_, rfl, h⟩
def lX2_reachedFrom_9 (v : Nat) (p1 : Int32) (Q : Int32 → xM → Prop) : Nat → xM → Int32 → Int32 → Int32 → Prop
  | 0 => fun _ _ _ _ => False
  | n + 1 => let k9 := lX2_reachedFrom_9 v p1 Q n; fun M a2 a3 a4 =>
    ((((10 : Int32) ≤ a4) → (wX2_reachedFrom_40 v p1 Q M a2)) ∧ ((¬ (10 : Int32) ≤ a4) → ((((a3 = 0) → (wX2_reachedFrom_40 v p1 Q M a2)) ∧ ((¬ a3 = 0) → (wX2_enteredByThese M v a3 (fun r22 M22 => k9 M22 (a2 ||| (r22 &&& (a2 ^^^ (-1 : Int32)))) (r22 &&& (a2 ^^^ (-1 : Int32))) (a4 + (1 : Int32)))))))))
set_option maxHeartbeats 4000000 in
set_option maxRecDepth 100000 in
theorem tX2_reachedFrom_9 {l : Launch} {E : xE} {v : Nat} {p1 : Int32} {Q : Int32 → xM → Prop} (h_v : xVol v) (n : Nat) : ∀ (M : xM) (a2 : Int32) (a3 : Int32) (a4 : Int32), lX2_reachedFrom_9 v p1 Q n M a2 a3 a4 → Gx l E mX2_reachedFrom (xRi Q) 9 M [some (.ref v), none, some (.int a2), some (.int a3), some (.int a4)] [] := by
  induction n with
  | zero => intro M a2 a3 a4 h; exact h.elim
  | succ n hk9 =>
      intro M a2 a3 a4 h
      unfold lX2_reachedFrom_9 at h
      dsimp only at h
      refine Gx_run (es := eX2_reachedFrom_9) (P := []) (M' := M) (L' := [some (.ref v), none, some (.int a2), some (.int a3), some (.int a4)]) (st' := [.int (10 : Int32), .int a4]) (pc' := 13) kX2_reachedFrom_9 rfl trivial rfl ?_
      refine Gx_icmp_ge (off := 27) (tgt := 40) (by decide +kernel) (by decide) (fun z => ?_) (fun z => ?_)
      · have h := h.1 z
        refine Gx_mask [false, false, true, false, false] (L' := [none, none, some (.int a2), none, none]) rfl ?_
        exact tX2_reachedFrom_40 h_v  M a2 h
      · have h := h.2 z
        refine Gx_run (es := eX2_reachedFrom_16) (P := []) (M' := M) (L' := [some (.ref v), none, some (.int a2), some (.int a3), some (.int a4)]) (st' := [.int a3]) (pc' := 17) kX2_reachedFrom_16 rfl trivial rfl ?_
        refine Gx_if_eq (off := 23) (tgt := 40) (by decide +kernel) (by decide) (fun z => ?_) (fun z => ?_)
        · have h := h.1 z
          refine Gx_mask [false, false, true, false, false] (L' := [none, none, some (.int a2), none, none]) rfl ?_
          exact tX2_reachedFrom_40 h_v  M a2 h
        · have h := h.2 z
          refine Gx_run (es := eX2_reachedFrom_20) (P := []) (M' := M) (L' := [some (.ref v), none, some (.int a2), some (.int a3), some (.int a4)]) (st' := [.int a3, .ref v]) (pc' := 22) kX2_reachedFrom_20 rfl trivial rfl ?_
          refine Gx_callV (As := [.int a3]) (by decide +kernel) ml_2_77 okX2_enteredByThese mvX2_enteredByThese rfl (by decide) (Nat.le_of_ble_eq_true rfl) (xVol_0 h_v) rfl rfl (tX2_enteredByThese h_v h) (fun rr M22 qq => ?_)
          obtain ⟨r22, rfl, h⟩ := qq
          show Gx l E mX2_reachedFrom _ 25 M22 [some (.ref v), none, some (.int a2), some (.int a3), some (.int a4)] [.int r22]
          refine Gx_run (es := eX2_reachedFrom_25) (P := []) (M' := M22) (L' := [some (.ref v), none, some (.int (a2 ||| (r22 &&& (a2 ^^^ (-1 : Int32))))), some (.int (r22 &&& (a2 ^^^ (-1 : Int32)))), some (.int (a4 + (1 : Int32)))]) (st' := []) (pc' := 37) kX2_reachedFrom_25 rfl trivial rfl ?_
          refine Gx_goto (off := -28) (tgt := 9) (by decide +kernel) (by decide) ?_
          refine Gx_mask [true, false, true, true, true] (L' := [some (.ref v), none, some (.int (a2 ||| (r22 &&& (a2 ^^^ (-1 : Int32))))), some (.int (r22 &&& (a2 ^^^ (-1 : Int32)))), some (.int (a4 + (1 : Int32)))]) rfl ?_
          exact hk9 M22 (a2 ||| (r22 &&& (a2 ^^^ (-1 : Int32)))) (r22 &&& (a2 ^^^ (-1 : Int32))) (a4 + (1 : Int32)) h
def wX2_reachedFrom (M : xM) (v : Nat) (p1 : Int32) (Q : Int32 → xM → Prop) : Prop :=
    (∃ n : Nat, lX2_reachedFrom_9 v p1 Q n M ((1 : Int32) <<< (p1 &&& 31)) ((1 : Int32) <<< (p1 &&& 31)) (0 : Int32))
set_option maxHeartbeats 4000000 in
set_option maxRecDepth 100000 in
theorem tX2_reachedFrom {l : Launch} {E : xE} {M : xM} {v : Nat} {p1 : Int32} {Q : Int32 → xM → Prop} (h_v : xVol v) (h : wX2_reachedFrom M v p1 Q) : Ct l E mX2_reachedFrom [.ref v, .int p1] M (xRi Q) := by
  refine Ct_of (by decide +kernel) rfl (Nat.le_of_ble_eq_true rfl) ?_
  unfold wX2_reachedFrom at h
  show Gx l E mX2_reachedFrom (xRi Q) 0 M [some (.ref v), some (.int p1), none, none, none] []
  refine Gx_run (es := eX2_reachedFrom_0) (P := []) (M' := M) (L' := [some (.ref v), some (.int p1), some (.int ((1 : Int32) <<< (p1 &&& 31))), some (.int ((1 : Int32) <<< (p1 &&& 31))), some (.int (0 : Int32))]) (st' := []) (pc' := 9) kX2_reachedFrom_0 rfl trivial rfl ?_
  refine Gx_mask [true, false, true, true, true] (L' := [some (.ref v), none, some (.int ((1 : Int32) <<< (p1 &&& 31))), some (.int ((1 : Int32) <<< (p1 &&& 31))), some (.int (0 : Int32))]) rfl ?_
  obtain ⟨n, h⟩ := h
  exact tX2_reachedFrom_9 h_v  n M ((1 : Int32) <<< (p1 &&& 31)) ((1 : Int32) <<< (p1 &&& 31)) (0 : Int32) h
def eX3_count_0 : List xI := [(.iload_n 1, 1, 0, 0, 0)]
theorem kX3_count_0 : xcode (xmb mX3_count) (xmo mX3_count) 0 eX3_count_0 = true := by decide +kernel
def eX3_count_48 : List xI := [(.aload_n 0, 1, 0, 0, 0), (.getfield 10, 3, 3, 0, 0)]
theorem kX3_count_48 : xcode (xmb mX3_count) (xmo mX3_count) 48 eX3_count_48 = true := by decide +kernel
def eX3_count_56 : List xI := [(.aload_n 0, 1, 0, 0, 0), (.getfield 10, 3, 3, 0, 0)]
theorem kX3_count_56 : xcode (xmb mX3_count) (xmo mX3_count) 56 eX3_count_56 = true := by decide +kernel
def eX3_count_64 : List xI := [(.aload_n 0, 1, 0, 0, 0), (.getfield 10, 3, 3, 0, 0)]
theorem kX3_count_64 : xcode (xmb mX3_count) (xmo mX3_count) 64 eX3_count_64 = true := by decide +kernel
def eX3_count_72 : List xI := [(.aload_n 0, 1, 0, 0, 0), (.getfield 10, 3, 3, 0, 0), (.getfield 118, 3, 2, 6, 0)]
theorem kX3_count_72 : xcode (xmb mX3_count) (xmo mX3_count) 72 eX3_count_72 = true := by decide +kernel
def eX3_count_80 : List xI := [(.aload_n 0, 1, 0, 0, 0), (.getfield 10, 3, 3, 0, 0), (.getfield 97, 3, 2, 7, 0)]
theorem kX3_count_80 : xcode (xmb mX3_count) (xmo mX3_count) 80 eX3_count_80 = true := by decide +kernel
def eX3_count_88 : List xI := [(.aload_n 0, 1, 0, 0, 0), (.getfield 57, 3, 3, 11, 0)]
theorem kX3_count_88 : xcode (xmb mX3_count) (xmo mX3_count) 88 eX3_count_88 = true := by decide +kernel
def eX3_count_93 : List xI := [(.aload_n 0, 1, 0, 0, 0), (.getfield 51, 3, 3, 9, 0)]
theorem kX3_count_93 : xcode (xmb mX3_count) (xmo mX3_count) 93 eX3_count_93 = true := by decide +kernel
def eX3_count_98 : List xI := [(.aload_n 0, 1, 0, 0, 0), (.getfield 43, 3, 3, 7, 0), (.getfield 67, 3, 1, 1, 0)]
theorem kX3_count_98 : xcode (xmb mX3_count) (xmo mX3_count) 98 eX3_count_98 = true := by decide +kernel
def eX3_count_106 : List xI := [(.iload_n 1, 1, 0, 0, 0), (.bipush 11, 2, 0, 0, (11))]
theorem kX3_count_106 : xcode (xmb mX3_count) (xmo mX3_count) 106 eX3_count_106 = true := by decide +kernel
def eX3_count_130 : List xI := [(.bipush (-9), 2, 0, 0, (-9))]
theorem kX3_count_130 : xcode (xmb mX3_count) (xmo mX3_count) 130 eX3_count_130 = true := by decide +kernel
def eX3_count_112 : List xI := [(.iload_n 1, 1, 0, 0, 0), (.bipush 16, 2, 0, 0, (16))]
theorem kX3_count_112 : xcode (xmb mX3_count) (xmo mX3_count) 112 eX3_count_112 = true := by decide +kernel
def eX3_count_118 : List xI := [(.aload_n 0, 1, 0, 0, 0), (.getfield 54, 3, 3, 10, 0), (.iload_n 1, 1, 0, 0, 0), (.bipush 10, 2, 0, 0, (10)), (.isub, 1, 0, 0, 0), (.iaload, 1, 0, 0, 0)]
theorem kX3_count_118 : xcode (xmb mX3_count) (xmo mX3_count) 118 eX3_count_118 = true := by decide +kernel
def wX3_count_132 (p1 : Int32) (Q : Int32 → xM → Prop) (M : xM) (s0 : Int32) : Prop :=
    Q s0 M
set_option maxHeartbeats 4000000 in
set_option maxRecDepth 100000 in
theorem tX3_count_132 {l : Launch} {E : xE} {p1 : Int32} {Q : Int32 → xM → Prop} (M : xM) (s0 : Int32) (h : wX3_count_132 p1 Q M s0) : Gx l E mX3_count (xRi Q) 132 M [none, none] [.int s0] := by
  unfold wX3_count_132 at h
  exact Gx_iret (by decide +kernel) rfl rfl ⟨_, rfl, h⟩
def wX3_count_130 (p1 : Int32) (Q : Int32 → xM → Prop) (M : xM) : Prop :=
    wX3_count_132 p1 Q M (-9 : Int32)
set_option maxHeartbeats 4000000 in
set_option maxRecDepth 100000 in
theorem tX3_count_130 {l : Launch} {E : xE} {p1 : Int32} {Q : Int32 → xM → Prop} (M : xM) (h : wX3_count_130 p1 Q M ) : Gx l E mX3_count (xRi Q) 130 M [none, none] [] := by
  unfold wX3_count_130 at h
  refine Gx_run (es := eX3_count_130) (P := []) (M' := M) (L' := [none, none]) (st' := [.int (-9 : Int32)]) (pc' := 132) kX3_count_130 rfl trivial rfl ?_
  refine Gx_mask [false, false] (L' := [none, none]) rfl ?_
  exact tX3_count_132  M (-9 : Int32) h
def wX3_count (M : xM) (p1 : Int32) (Q : Int32 → xM → Prop) : Prop :=
    (((p1 = (0 : Int32)) → (wX2_inodesInUse M 1 (fun r52 M52 => Q r52 M52))) ∧ ((¬ p1 = (0 : Int32)) → (((p1 = (1 : Int32)) → (wX2_directories M 1 (fun r60 M60 => Q r60 M60))) ∧ ((¬ p1 = (1 : Int32)) → (((p1 = (2 : Int32)) → (wX2_blocksPointedAt M 1 (fun r68 M68 => Q r68 M68))) ∧ ((¬ p1 = (2 : Int32)) → (((p1 = (3 : Int32)) → (Q (M 1 6) M)) ∧ ((¬ p1 = (3 : Int32)) → (((p1 = (4 : Int32)) → (Q (M 1 7) M)) ∧ ((¬ p1 = (4 : Int32)) → (((p1 = (5 : Int32)) → (Q (M 0 11) M)) ∧ ((¬ p1 = (5 : Int32)) → (((p1 = (6 : Int32)) → (Q (M 0 9) M)) ∧ ((¬ p1 = (6 : Int32)) → (((p1 = (7 : Int32)) → (Q (M 46 1) M)) ∧ ((¬ p1 = (7 : Int32)) → ((((p1 < (11 : Int32)) → (wX3_count_130 p1 Q M)) ∧ ((¬ p1 < (11 : Int32)) → (((((16 : Int32) < p1) → (wX3_count_130 p1 Q M)) ∧ ((¬ (16 : Int32) < p1) → ((vp_in (p1 - (10 : Int32)) 7) ∧ wX3_count_132 p1 Q M (M 49 (p1 - (10 : Int32)).toNatClampNeg))))))))))))))))))))))))
set_option maxHeartbeats 4000000 in
set_option maxRecDepth 100000 in
theorem tX3_count {l : Launch} {E : xE} {M : xM} {p1 : Int32} {Q : Int32 → xM → Prop} (h : wX3_count M p1 Q) : Ct l E mX3_count [.ref 0, .int p1] M (xRi Q) := by
  refine Ct_of (by decide +kernel) rfl (Nat.le_of_ble_eq_true rfl) ?_
  unfold wX3_count at h
  show Gx l E mX3_count (xRi Q) 0 M [some (.ref 0), some (.int p1)] []
  refine Gx_run (es := eX3_count_0) (P := []) (M' := M) (L' := [some (.ref 0), some (.int p1)]) (st' := [.int p1]) (pc' := 1) kX3_count_0 rfl trivial rfl ?_
  by_cases z0 : p1 = (0 : Int32)
  · have h := h.1 z0
    refine Gx_tabAt (dflt := 105) (lo := 0) (hi := 7) (offs := #[47, 55, 63, 71, 79, 87, 92, 97]) (len := 47) z0 (by decide +kernel) (by decide) (by decide) (off := 47) (tgt := 48) rfl (by decide) ?_
    refine Gx_run (es := eX3_count_48) (P := [xkd 0 = 3]) (M' := M) (L' := [some (.ref 0), some (.int p1)]) (st' := [.ref 1]) (pc' := 52) kX3_count_48 rfl ⟨rfl, trivial⟩ rfl ?_
    refine Gx_callV (As := []) (by decide +kernel) ml_3_172 okX2_inodesInUse mvX2_inodesInUse rfl (by decide) (Nat.le_of_ble_eq_true rfl) rfl rfl rfl (tX2_inodesInUse xVol_at1 h) (fun rr M52 qq => ?_)
    obtain ⟨r52, rfl, h⟩ := qq
    show Gx l E mX3_count _ 55 M52 [some (.ref 0), some (.int p1)] [.int r52]
    exact Gx_iret (by decide +kernel) rfl rfl ⟨_, rfl, h⟩
  replace h := h.2 z0
  by_cases z1 : p1 = (1 : Int32)
  · have h := h.1 z1
    refine Gx_tabAt (dflt := 105) (lo := 0) (hi := 7) (offs := #[47, 55, 63, 71, 79, 87, 92, 97]) (len := 47) z1 (by decide +kernel) (by decide) (by decide) (off := 55) (tgt := 56) rfl (by decide) ?_
    refine Gx_run (es := eX3_count_56) (P := [xkd 0 = 3]) (M' := M) (L' := [some (.ref 0), some (.int p1)]) (st' := [.ref 1]) (pc' := 60) kX3_count_56 rfl ⟨rfl, trivial⟩ rfl ?_
    refine Gx_callV (As := []) (by decide +kernel) ml_3_221 okX2_directories mvX2_directories rfl (by decide) (Nat.le_of_ble_eq_true rfl) rfl rfl rfl (tX2_directories xVol_at1 h) (fun rr M60 qq => ?_)
    obtain ⟨r60, rfl, h⟩ := qq
    show Gx l E mX3_count _ 63 M60 [some (.ref 0), some (.int p1)] [.int r60]
    exact Gx_iret (by decide +kernel) rfl rfl ⟨_, rfl, h⟩
  replace h := h.2 z1
  by_cases z2 : p1 = (2 : Int32)
  · have h := h.1 z2
    refine Gx_tabAt (dflt := 105) (lo := 0) (hi := 7) (offs := #[47, 55, 63, 71, 79, 87, 92, 97]) (len := 47) z2 (by decide +kernel) (by decide) (by decide) (off := 63) (tgt := 64) rfl (by decide) ?_
    refine Gx_run (es := eX3_count_64) (P := [xkd 0 = 3]) (M' := M) (L' := [some (.ref 0), some (.int p1)]) (st' := [.ref 1]) (pc' := 68) kX3_count_64 rfl ⟨rfl, trivial⟩ rfl ?_
    refine Gx_callV (As := []) (by decide +kernel) ml_3_180 okX2_blocksPointedAt mvX2_blocksPointedAt rfl (by decide) (Nat.le_of_ble_eq_true rfl) rfl rfl rfl (tX2_blocksPointedAt xVol_at1 h) (fun rr M68 qq => ?_)
    obtain ⟨r68, rfl, h⟩ := qq
    show Gx l E mX3_count _ 71 M68 [some (.ref 0), some (.int p1)] [.int r68]
    exact Gx_iret (by decide +kernel) rfl rfl ⟨_, rfl, h⟩
  replace h := h.2 z2
  by_cases z3 : p1 = (3 : Int32)
  · have h := h.1 z3
    refine Gx_tabAt (dflt := 105) (lo := 0) (hi := 7) (offs := #[47, 55, 63, 71, 79, 87, 92, 97]) (len := 47) z3 (by decide +kernel) (by decide) (by decide) (off := 71) (tgt := 72) rfl (by decide) ?_
    refine Gx_run (es := eX3_count_72) (P := [xkd 0 = 3, xkd 1 = 2]) (M' := M) (L' := [some (.ref 0), some (.int p1)]) (st' := [.int (M 1 6)]) (pc' := 79) kX3_count_72 rfl ⟨rfl, rfl, trivial⟩ rfl ?_
    exact Gx_iret (by decide +kernel) rfl rfl ⟨_, rfl, h⟩
  replace h := h.2 z3
  by_cases z4 : p1 = (4 : Int32)
  · have h := h.1 z4
    refine Gx_tabAt (dflt := 105) (lo := 0) (hi := 7) (offs := #[47, 55, 63, 71, 79, 87, 92, 97]) (len := 47) z4 (by decide +kernel) (by decide) (by decide) (off := 79) (tgt := 80) rfl (by decide) ?_
    refine Gx_run (es := eX3_count_80) (P := [xkd 0 = 3, xkd 1 = 2]) (M' := M) (L' := [some (.ref 0), some (.int p1)]) (st' := [.int (M 1 7)]) (pc' := 87) kX3_count_80 rfl ⟨rfl, rfl, trivial⟩ rfl ?_
    exact Gx_iret (by decide +kernel) rfl rfl ⟨_, rfl, h⟩
  replace h := h.2 z4
  by_cases z5 : p1 = (5 : Int32)
  · have h := h.1 z5
    refine Gx_tabAt (dflt := 105) (lo := 0) (hi := 7) (offs := #[47, 55, 63, 71, 79, 87, 92, 97]) (len := 47) z5 (by decide +kernel) (by decide) (by decide) (off := 87) (tgt := 88) rfl (by decide) ?_
    refine Gx_run (es := eX3_count_88) (P := [xkd 0 = 3]) (M' := M) (L' := [some (.ref 0), some (.int p1)]) (st' := [.int (M 0 11)]) (pc' := 92) kX3_count_88 rfl ⟨rfl, trivial⟩ rfl ?_
    exact Gx_iret (by decide +kernel) rfl rfl ⟨_, rfl, h⟩
  replace h := h.2 z5
  by_cases z6 : p1 = (6 : Int32)
  · have h := h.1 z6
    refine Gx_tabAt (dflt := 105) (lo := 0) (hi := 7) (offs := #[47, 55, 63, 71, 79, 87, 92, 97]) (len := 47) z6 (by decide +kernel) (by decide) (by decide) (off := 92) (tgt := 93) rfl (by decide) ?_
    refine Gx_run (es := eX3_count_93) (P := [xkd 0 = 3]) (M' := M) (L' := [some (.ref 0), some (.int p1)]) (st' := [.int (M 0 9)]) (pc' := 97) kX3_count_93 rfl ⟨rfl, trivial⟩ rfl ?_
    exact Gx_iret (by decide +kernel) rfl rfl ⟨_, rfl, h⟩
  replace h := h.2 z6
  by_cases z7 : p1 = (7 : Int32)
  · have h := h.1 z7
    refine Gx_tabAt (dflt := 105) (lo := 0) (hi := 7) (offs := #[47, 55, 63, 71, 79, 87, 92, 97]) (len := 47) z7 (by decide +kernel) (by decide) (by decide) (off := 97) (tgt := 98) rfl (by decide) ?_
    refine Gx_run (es := eX3_count_98) (P := [xkd 0 = 3, xkd 46 = 1]) (M' := M) (L' := [some (.ref 0), some (.int p1)]) (st' := [.int (M 46 1)]) (pc' := 105) kX3_count_98 rfl ⟨rfl, rfl, trivial⟩ rfl ?_
    exact Gx_iret (by decide +kernel) rfl rfl ⟨_, rfl, h⟩
  replace h := h.2 z7
  suffices hk : Gx l E mX3_count _ 106 M [some (.ref 0), some (.int p1)] [] by
    refine Gx_tableOut (dflt := 105) (lo := 0) (hi := 7) (offs := #[47, 55, 63, 71, 79, 87, 92, 97]) (len := 47) (tgt := 106) (by decide +kernel) ?_ (by decide) hk
    have n0 := lv_neT (a := 0) z0 (by decide)
    have n1 := lv_neT (a := 1) z1 (by decide)
    have n2 := lv_neT (a := 2) z2 (by decide)
    have n3 := lv_neT (a := 3) z3 (by decide)
    have n4 := lv_neT (a := 4) z4 (by decide)
    have n5 := lv_neT (a := 5) z5 (by decide)
    have n6 := lv_neT (a := 6) z6 (by decide)
    have n7 := lv_neT (a := 7) z7 (by decide)
    omega
  refine Gx_run (es := eX3_count_106) (P := []) (M' := M) (L' := [some (.ref 0), some (.int p1)]) (st' := [.int (11 : Int32), .int p1]) (pc' := 109) kX3_count_106 rfl trivial rfl ?_
  refine Gx_icmp_lt (off := 21) (tgt := 130) (by decide +kernel) (by decide) (fun z => ?_) (fun z => ?_)
  · have h := h.1 z
    refine Gx_mask [false, false] (L' := [none, none]) rfl ?_
    exact tX3_count_130  M h
  · have h := h.2 z
    refine Gx_run (es := eX3_count_112) (P := []) (M' := M) (L' := [some (.ref 0), some (.int p1)]) (st' := [.int (16 : Int32), .int p1]) (pc' := 115) kX3_count_112 rfl trivial rfl ?_
    refine Gx_icmp_gt (off := 15) (tgt := 130) (by decide +kernel) (by decide) (fun z => ?_) (fun z => ?_)
    · have h := h.1 z
      refine Gx_mask [false, false] (L' := [none, none]) rfl ?_
      exact tX3_count_130  M h
    · have h := h.2 z
      obtain ⟨g118_0, h⟩ := h
      refine Gx_run (es := eX3_count_118) (P := [xkd 0 = 3, xkd 49 = 5, vp_in (p1 - (10 : Int32)) (xln 49)]) (M' := M) (L' := [some (.ref 0), some (.int p1)]) (st' := [.int (M 49 (p1 - (10 : Int32)).toNatClampNeg)]) (pc' := 127) kX3_count_118 rfl ⟨rfl, rfl, g118_0, trivial⟩ rfl ?_
      refine Gx_goto (off := 5) (tgt := 132) (by decide +kernel) (by decide) ?_
      refine Gx_mask [false, false] (L' := [none, none]) rfl ?_
      exact tX3_count_132  M (M 49 (p1 - (10 : Int32)).toNatClampNeg) h
def eX3_image_0 : List xI := [(.aload_n 0, 1, 0, 0, 0), (.getfield 19, 3, 3, 2, 0), (.aload_n 0, 1, 0, 0, 0), (.getfield 10, 3, 3, 0, 0)]
theorem kX3_image_0 : xcode (xmb mX3_image) (xmo mX3_image) 0 eX3_image_0 = true := by decide +kernel
def eX3_image_11 : List xI := [(.aload_n 0, 1, 0, 0, 0), (.aload_n 0, 1, 0, 0, 0), (.getfield 57, 3, 3, 11, 0), (.putfield 26, 3, 3, 4, 0), (.aload_n 0, 1, 0, 0, 0), (.iconst 1, 1, 0, 0, (1)), (.putfield 22, 3, 3, 3, 0), (.aload_n 0, 1, 0, 0, 0), (.getfield 10, 3, 3, 0, 0)]
theorem kX3_image_11 : xcode (xmb mX3_image) (xmo mX3_image) 11 eX3_image_11 = true := by decide +kernel
def wX3_image (M : xM) (Q : Int32 → xM → Prop) : Prop :=
    wX2_takeFrom M 15 1 (fun M8 => wX2_inodesInUse (xup (xup M8 0 4 (M8 0 11)) 0 3 (1 : Int32)) 1 (fun r28 M28 => wJ6_bitCount_0f7a4 M28 r28 (fun r31 M31 => Q r31 M31)))
set_option maxHeartbeats 4000000 in
set_option maxRecDepth 100000 in
theorem tX3_image {l : Launch} {E : xE} {M : xM} {Q : Int32 → xM → Prop} (h : wX3_image M  Q) : Ct l E mX3_image [.ref 0] M (xRi Q) := by
  refine Ct_of (by decide +kernel) rfl (Nat.le_of_ble_eq_true rfl) ?_
  unfold wX3_image at h
  show Gx l E mX3_image (xRi Q) 0 M [some (.ref 0)] []
  refine Gx_run (es := eX3_image_0) (P := [xkd 0 = 3, xkd 0 = 3]) (M' := M) (L' := [some (.ref 0)]) (st' := [.ref 1, .ref 15]) (pc' := 8) kX3_image_0 rfl ⟨rfl, rfl, trivial⟩ rfl ?_
  refine Gx_callV (As := [.ref 1]) (by decide +kernel) ml_3_140 okX2_takeFrom mvX2_takeFrom rfl (by decide) (Nat.le_of_ble_eq_true rfl) rfl rfl rfl (tX2_takeFrom xVol_at15 xVol_at1 h) (fun rr M8 qq => ?_)
  obtain ⟨rfl, h⟩ := qq
  show Gx l E mX3_image _ 11 M8 [some (.ref 0)] []
  refine Gx_run (es := eX3_image_11) (P := [xkd 0 = 3, xkd 0 = 3, xkd 0 = 3, (1 : Int32) = 0 ∨ (1 : Int32) = 1, xkd 0 = 3]) (M' := (xup (xup M8 0 4 (M8 0 11)) 0 3 (1 : Int32))) (L' := [some (.ref 0)]) (st' := [.ref 1]) (pc' := 28) kX3_image_11 rfl ⟨rfl, rfl, rfl, (Or.inr rfl), rfl, trivial⟩ rfl ?_
  refine Gx_callV (As := []) (by decide +kernel) ml_3_172 okX2_inodesInUse mvX2_inodesInUse rfl (by decide) (Nat.le_of_ble_eq_true rfl) rfl rfl rfl (tX2_inodesInUse xVol_at1 h) (fun rr M28 qq => ?_)
  obtain ⟨r28, rfl, h⟩ := qq
  show Gx l E mX3_image _ 31 M28 [some (.ref 0)] [.int r28]
  refine Gx_callS (As := [.int r28]) (by decide +kernel) ml_3_175 okJ6_bitCount_0f7a4 mvJ6_bitCount_0f7a4 rfl (by decide) (Nat.le_of_ble_eq_true rfl) (tJ6_bitCount_0f7a4 h) (fun rr M31 qq => ?_)
  obtain ⟨r31, rfl, h⟩ := qq
  show Gx l E mX3_image _ 34 M31 [some (.ref 0)] [.int r31]
  exact Gx_iret (by decide +kernel) rfl rfl ⟨_, rfl, h⟩
def eX3_mean_0 : List xI := [(.iload_n 1, 1, 0, 0, 0)]
theorem kX3_mean_0 : xcode (xmb mX3_mean) (xmo mX3_mean) 0 eX3_mean_0 = true := by decide +kernel
def eX3_mean_21 : List xI := [(.iconst 0, 1, 0, 0, (0)), (.istore_n 2, 1, 0, 0, 0), (.iconst 0, 1, 0, 0, (0)), (.istore_n 3, 1, 0, 0, 0)]
theorem kX3_mean_21 : xcode (xmb mX3_mean) (xmo mX3_mean) 21 eX3_mean_21 = true := by decide +kernel
def eX3_mean_25 : List xI := [(.iload_n 3, 1, 0, 0, 0), (.bipush 24, 2, 0, 0, (24))]
theorem kX3_mean_25 : xcode (xmb mX3_mean) (xmo mX3_mean) 25 eX3_mean_25 = true := by decide +kernel
def eX3_mean_48 : List xI := [(.iload_n 2, 1, 0, 0, 0), (.i2l, 1, 0, 0, 0), (.aload_n 0, 1, 0, 0, 0), (.getfield 10, 3, 3, 0, 0)]
theorem kX3_mean_48 : xcode (xmb mX3_mean) (xmo mX3_mean) 48 eX3_mean_48 = true := by decide +kernel
def eX3_mean_60 : List xI := [(.i2l, 1, 0, 0, 0), (.iload_n 1, 1, 0, 0, 0)]
theorem kX3_mean_60 : xcode (xmb mX3_mean) (xmo mX3_mean) 60 eX3_mean_60 = true := by decide +kernel
def eX3_mean_31 : List xI := [(.iload_n 2, 1, 0, 0, 0), (.aload_n 0, 1, 0, 0, 0), (.getfield 10, 3, 3, 0, 0), (.iload_n 3, 1, 0, 0, 0)]
theorem kX3_mean_31 : xcode (xmb mX3_mean) (xmo mX3_mean) 31 eX3_mean_31 = true := by decide +kernel
def eX3_mean_40 : List xI := [(.iadd, 1, 0, 0, 0), (.istore_n 2, 1, 0, 0, 0), (.iinc 3 1, 3, 0, 0, (1))]
theorem kX3_mean_40 : xcode (xmb mX3_mean) (xmo mX3_mean) 40 eX3_mean_40 = true := by decide +kernel
def eX3_mean_4 : List xI := [(.iload_n 1, 1, 0, 0, 0), (.iconst 1, 1, 0, 0, (1))]
theorem kX3_mean_4 : xcode (xmb mX3_mean) (xmo mX3_mean) 4 eX3_mean_4 = true := by decide +kernel
def eX3_mean_9 : List xI := [(.ldc2_w 201, 3, 0, 0, 0), (.aload_n 0, 1, 0, 0, 0), (.bipush (-2), 2, 0, 0, (-2))]
theorem kX3_mean_9 : xcode (xmb mX3_mean) (xmo mX3_mean) 9 eX3_mean_9 = true := by decide +kernel
def eX3_mean_18 : List xI := [(.i2l, 1, 0, 0, 0), (.lsub, 1, 0, 0, 0)]
theorem kX3_mean_18 : xcode (xmb mX3_mean) (xmo mX3_mean) 18 eX3_mean_18 = true := by decide +kernel
def lX3_mean_25 (p1 : Int32) (Q : Int64 → xM → Prop) : Nat → xM → Int32 → Int32 → Prop
  | 0 => fun _ _ _ => False
  | n + 1 => let k25 := lX3_mean_25 p1 Q n; fun M a2 a3 =>
    ((((24 : Int32) ≤ a3) → (wX2_inodesInUse M 1 (fun r54 M54 => wJ6_bitCount_0f7a4 M54 r54 (fun r57 M57 => wX3_partOfFraction M57 a2.toInt64 r57.toInt64 p1 (fun r62 M62 => Q r62 M62))))) ∧ ((¬ (24 : Int32) ≤ a3) → (wX2_pointersTo M 1 a3 (fun r37 M37 => k25 M37 (a2 + r37) (a3 + (1 : Int32))))))
set_option maxHeartbeats 4000000 in
set_option maxRecDepth 100000 in
theorem tX3_mean_25 {l : Launch} {E : xE} {p1 : Int32} {Q : Int64 → xM → Prop} (n : Nat) : ∀ (M : xM) (a2 : Int32) (a3 : Int32), lX3_mean_25 p1 Q n M a2 a3 → Gx l E mX3_mean (xRj Q) 25 M [some (.ref 0), some (.int p1), some (.int a2), some (.int a3)] [] := by
  induction n with
  | zero => intro M a2 a3 h; exact h.elim
  | succ n hk25 =>
      intro M a2 a3 h
      unfold lX3_mean_25 at h
      dsimp only at h
      refine Gx_run (es := eX3_mean_25) (P := []) (M' := M) (L' := [some (.ref 0), some (.int p1), some (.int a2), some (.int a3)]) (st' := [.int (24 : Int32), .int a3]) (pc' := 28) kX3_mean_25 rfl trivial rfl ?_
      refine Gx_icmp_ge (off := 20) (tgt := 48) (by decide +kernel) (by decide) (fun z => ?_) (fun z => ?_)
      · have h := h.1 z
        refine Gx_run (es := eX3_mean_48) (P := [xkd 0 = 3]) (M' := M) (L' := [some (.ref 0), some (.int p1), some (.int a2), some (.int a3)]) (st' := [.ref 1, .long a2.toInt64]) (pc' := 54) kX3_mean_48 rfl ⟨rfl, trivial⟩ rfl ?_
        refine Gx_callV (As := []) (by decide +kernel) ml_3_172 okX2_inodesInUse mvX2_inodesInUse rfl (by decide) (Nat.le_of_ble_eq_true rfl) rfl rfl rfl (tX2_inodesInUse xVol_at1 h) (fun rr M54 qq => ?_)
        obtain ⟨r54, rfl, h⟩ := qq
        show Gx l E mX3_mean _ 57 M54 [some (.ref 0), some (.int p1), some (.int a2), some (.int a3)] [.int r54, .long a2.toInt64]
        refine Gx_callS (As := [.int r54]) (by decide +kernel) ml_3_175 okJ6_bitCount_0f7a4 mvJ6_bitCount_0f7a4 rfl (by decide) (Nat.le_of_ble_eq_true rfl) (tJ6_bitCount_0f7a4 h) (fun rr M57 qq => ?_)
        obtain ⟨r57, rfl, h⟩ := qq
        show Gx l E mX3_mean _ 60 M57 [some (.ref 0), some (.int p1), some (.int a2), some (.int a3)] [.int r57, .long a2.toInt64]
        refine Gx_run (es := eX3_mean_60) (P := []) (M' := M57) (L' := [some (.ref 0), some (.int p1), some (.int a2), some (.int a3)]) (st' := [.int p1, .long r57.toInt64, .long a2.toInt64]) (pc' := 62) kX3_mean_60 rfl trivial rfl ?_
        refine Gx_callS (As := [.long a2.toInt64, .long r57.toInt64, .int p1]) (by decide +kernel) ml_3_210 okX3_partOfFraction mvX3_partOfFraction rfl (by decide) (Nat.le_of_ble_eq_true rfl) (tX3_partOfFraction h) (fun rr M62 qq => ?_)
        obtain ⟨r62, rfl, h⟩ := qq
        show Gx l E mX3_mean _ 65 M62 [some (.ref 0), some (.int p1), some (.int a2), some (.int a3)] [.long r62]
        exact Gx_lret (by decide +kernel) rfl ⟨_, rfl, h⟩
      · have h := h.2 z
        refine Gx_run (es := eX3_mean_31) (P := [xkd 0 = 3]) (M' := M) (L' := [some (.ref 0), some (.int p1), some (.int a2), some (.int a3)]) (st' := [.int a3, .ref 1, .int a2]) (pc' := 37) kX3_mean_31 rfl ⟨rfl, trivial⟩ rfl ?_
        refine Gx_callV (As := [.int a3]) (by decide +kernel) ml_3_121 okX2_pointersTo mvX2_pointersTo rfl (by decide) (Nat.le_of_ble_eq_true rfl) rfl rfl rfl (tX2_pointersTo xVol_at1 h) (fun rr M37 qq => ?_)
        obtain ⟨r37, rfl, h⟩ := qq
        show Gx l E mX3_mean _ 40 M37 [some (.ref 0), some (.int p1), some (.int a2), some (.int a3)] [.int r37, .int a2]
        refine Gx_run (es := eX3_mean_40) (P := []) (M' := M37) (L' := [some (.ref 0), some (.int p1), some (.int (a2 + r37)), some (.int (a3 + (1 : Int32)))]) (st' := []) (pc' := 45) kX3_mean_40 rfl trivial rfl ?_
        refine Gx_goto (off := -20) (tgt := 25) (by decide +kernel) (by decide) ?_
        refine Gx_mask [true, true, true, true] (L' := [some (.ref 0), some (.int p1), some (.int (a2 + r37)), some (.int (a3 + (1 : Int32)))]) rfl ?_
        exact hk25 M37 (a2 + r37) (a3 + (1 : Int32)) h
def wX3_mean_21 (p1 : Int32) (Q : Int64 → xM → Prop) (M : xM) : Prop :=
    (∃ n : Nat, lX3_mean_25 p1 Q n M (0 : Int32) (0 : Int32))
set_option maxHeartbeats 4000000 in
set_option maxRecDepth 100000 in
theorem tX3_mean_21 {l : Launch} {E : xE} {p1 : Int32} {Q : Int64 → xM → Prop} (M : xM) (h : wX3_mean_21 p1 Q M ) : Gx l E mX3_mean (xRj Q) 21 M [some (.ref 0), some (.int p1), none, none] [] := by
  unfold wX3_mean_21 at h
  refine Gx_run (es := eX3_mean_21) (P := []) (M' := M) (L' := [some (.ref 0), some (.int p1), some (.int (0 : Int32)), some (.int (0 : Int32))]) (st' := []) (pc' := 25) kX3_mean_21 rfl trivial rfl ?_
  refine Gx_mask [true, true, true, true] (L' := [some (.ref 0), some (.int p1), some (.int (0 : Int32)), some (.int (0 : Int32))]) rfl ?_
  obtain ⟨n, h⟩ := h
  exact tX3_mean_25  n M (0 : Int32) (0 : Int32) h
def wX3_mean (M : xM) (p1 : Int32) (Q : Int64 → xM → Prop) : Prop :=
    (((p1 = 0) → (wX3_mean_21 p1 Q M)) ∧ ((¬ p1 = 0) → ((((p1 = (1 : Int32)) → (wX3_mean_21 p1 Q M)) ∧ ((¬ p1 = (1 : Int32)) → (wX3_refusal M (-2 : Int32) (fun r15 M15 => Q ((4000000000000000000 : Int64) - r15.toInt64) M15)))))))
set_option maxHeartbeats 4000000 in
set_option maxRecDepth 100000 in
theorem tX3_mean {l : Launch} {E : xE} {M : xM} {p1 : Int32} {Q : Int64 → xM → Prop} (h : wX3_mean M p1 Q) : Ct l E mX3_mean [.ref 0, .int p1] M (xRj Q) := by
  refine Ct_of (by decide +kernel) rfl (Nat.le_of_ble_eq_true rfl) ?_
  unfold wX3_mean at h
  show Gx l E mX3_mean (xRj Q) 0 M [some (.ref 0), some (.int p1), none, none] []
  refine Gx_run (es := eX3_mean_0) (P := []) (M' := M) (L' := [some (.ref 0), some (.int p1), none, none]) (st' := [.int p1]) (pc' := 1) kX3_mean_0 rfl trivial rfl ?_
  refine Gx_if_eq (off := 20) (tgt := 21) (by decide +kernel) (by decide) (fun z => ?_) (fun z => ?_)
  · have h := h.1 z
    refine Gx_mask [true, true, false, false] (L' := [some (.ref 0), some (.int p1), none, none]) rfl ?_
    exact tX3_mean_21  M h
  · have h := h.2 z
    refine Gx_run (es := eX3_mean_4) (P := []) (M' := M) (L' := [some (.ref 0), some (.int p1), none, none]) (st' := [.int (1 : Int32), .int p1]) (pc' := 6) kX3_mean_4 rfl trivial rfl ?_
    refine Gx_icmp_eq (off := 15) (tgt := 21) (by decide +kernel) (by decide) (fun z => ?_) (fun z => ?_)
    · have h := h.1 z
      refine Gx_mask [true, true, false, false] (L' := [some (.ref 0), some (.int p1), none, none]) rfl ?_
      exact tX3_mean_21  M h
    · have h := h.2 z
      refine Gx_run (es := eX3_mean_9) (P := []) (M' := M) (L' := [some (.ref 0), some (.int p1), none, none]) (st' := [.int (-2 : Int32), .ref 0, .long (4000000000000000000 : Int64)]) (pc' := 15) kX3_mean_9 rfl trivial rfl ?_
      refine Gx_callV (As := [.int (-2 : Int32)]) (by decide +kernel) ml_3_63 okX3_refusal mvX3_refusal rfl (by decide) (Nat.le_of_ble_eq_true rfl) rfl rfl rfl (tX3_refusal h) (fun rr M15 qq => ?_)
      obtain ⟨r15, rfl, h⟩ := qq
      show Gx l E mX3_mean _ 18 M15 [some (.ref 0), some (.int p1), none, none] [.int r15, .long (4000000000000000000 : Int64)]
      refine Gx_run (es := eX3_mean_18) (P := []) (M' := M15) (L' := [some (.ref 0), some (.int p1), none, none]) (st' := [.long ((4000000000000000000 : Int64) - r15.toInt64)]) (pc' := 20) kX3_mean_18 rfl trivial rfl ?_
      exact Gx_lret (by decide +kernel) rfl ⟨_, rfl, h⟩
def eX3_on_0 : List xI := [(.aload_n 0, 1, 0, 0, 0), (.getfield 22, 3, 3, 3, 0)]
theorem kX3_on_0 : xcode (xmb mX3_on) (xmo mX3_on) 0 eX3_on_0 = true := by decide +kernel
def eX3_on_14 : List xI := [(.aload_n 0, 1, 0, 0, 0), (.getfield 10, 3, 3, 0, 0), (.aload_n 0, 1, 0, 0, 0), (.getfield 19, 3, 3, 2, 0)]
theorem kX3_on_14 : xcode (xmb mX3_on) (xmo mX3_on) 14 eX3_on_14 = true := by decide +kernel
def eX3_on_25 : List xI := [(.aload_n 0, 1, 0, 0, 0), (.aload_n 0, 1, 0, 0, 0), (.getfield 26, 3, 3, 4, 0), (.putfield 57, 3, 3, 11, 0), (.aload_n 0, 1, 0, 0, 0), (.getfield 10, 3, 3, 0, 0)]
theorem kX3_on_25 : xcode (xmb mX3_on) (xmo mX3_on) 25 eX3_on_25 = true := by decide +kernel
def eX3_on_7 : List xI := [(.aload_n 0, 1, 0, 0, 0), (.bipush (-3), 2, 0, 0, (-3))]
theorem kX3_on_7 : xcode (xmb mX3_on) (xmo mX3_on) 7 eX3_on_7 = true := by decide +kernel
def wX3_on (M : xM) (Q : Int32 → xM → Prop) : Prop :=
    (((¬ (M 0 3) = 0) → (wX2_takeFrom M 1 15 (fun M22 => wX2_inodesInUse (xup M22 0 11 (M22 0 4)) 1 (fun r37 M37 => wJ6_bitCount_0f7a4 M37 r37 (fun r40 M40 => Q r40 M40))))) ∧ (((M 0 3) = 0) → (wX3_refusal M (-3 : Int32) (fun r10 M10 => Q r10 M10))))
set_option maxHeartbeats 4000000 in
set_option maxRecDepth 100000 in
theorem tX3_on {l : Launch} {E : xE} {M : xM} {Q : Int32 → xM → Prop} (h : wX3_on M  Q) : Ct l E mX3_on [.ref 0] M (xRi Q) := by
  refine Ct_of (by decide +kernel) rfl (Nat.le_of_ble_eq_true rfl) ?_
  unfold wX3_on at h
  show Gx l E mX3_on (xRi Q) 0 M [some (.ref 0)] []
  refine Gx_run (es := eX3_on_0) (P := [xkd 0 = 3]) (M' := M) (L' := [some (.ref 0)]) (st' := [.int (M 0 3)]) (pc' := 4) kX3_on_0 rfl ⟨rfl, trivial⟩ rfl ?_
  refine Gx_if_ne (off := 10) (tgt := 14) (by decide +kernel) (by decide) (fun z => ?_) (fun z => ?_)
  · have h := h.1 z
    refine Gx_run (es := eX3_on_14) (P := [xkd 0 = 3, xkd 0 = 3]) (M' := M) (L' := [some (.ref 0)]) (st' := [.ref 15, .ref 1]) (pc' := 22) kX3_on_14 rfl ⟨rfl, rfl, trivial⟩ rfl ?_
    refine Gx_callV (As := [.ref 15]) (by decide +kernel) ml_3_140 okX2_takeFrom mvX2_takeFrom rfl (by decide) (Nat.le_of_ble_eq_true rfl) rfl rfl rfl (tX2_takeFrom xVol_at1 xVol_at15 h) (fun rr M22 qq => ?_)
    obtain ⟨rfl, h⟩ := qq
    show Gx l E mX3_on _ 25 M22 [some (.ref 0)] []
    refine Gx_run (es := eX3_on_25) (P := [xkd 0 = 3, xkd 0 = 3, xkd 0 = 3]) (M' := (xup M22 0 11 (M22 0 4))) (L' := [some (.ref 0)]) (st' := [.ref 1]) (pc' := 37) kX3_on_25 rfl ⟨rfl, rfl, rfl, trivial⟩ rfl ?_
    refine Gx_callV (As := []) (by decide +kernel) ml_3_172 okX2_inodesInUse mvX2_inodesInUse rfl (by decide) (Nat.le_of_ble_eq_true rfl) rfl rfl rfl (tX2_inodesInUse xVol_at1 h) (fun rr M37 qq => ?_)
    obtain ⟨r37, rfl, h⟩ := qq
    show Gx l E mX3_on _ 40 M37 [some (.ref 0)] [.int r37]
    refine Gx_callS (As := [.int r37]) (by decide +kernel) ml_3_175 okJ6_bitCount_0f7a4 mvJ6_bitCount_0f7a4 rfl (by decide) (Nat.le_of_ble_eq_true rfl) (tJ6_bitCount_0f7a4 h) (fun rr M40 qq => ?_)
    obtain ⟨r40, rfl, h⟩ := qq
    show Gx l E mX3_on _ 43 M40 [some (.ref 0)] [.int r40]
    exact Gx_iret (by decide +kernel) rfl rfl ⟨_, rfl, h⟩
  · have h := h.2 z
    refine Gx_run (es := eX3_on_7) (P := []) (M' := M) (L' := [some (.ref 0)]) (st' := [.int (-3 : Int32), .ref 0]) (pc' := 10) kX3_on_7 rfl trivial rfl ?_
    refine Gx_callV (As := [.int (-3 : Int32)]) (by decide +kernel) ml_3_63 okX3_refusal mvX3_refusal rfl (by decide) (Nat.le_of_ble_eq_true rfl) rfl rfl rfl (tX3_refusal h) (fun rr M10 qq => ?_)
    obtain ⟨r10, rfl, h⟩ := qq
    show Gx l E mX3_on _ 13 M10 [some (.ref 0)] [.int r10]
    exact Gx_iret (by decide +kernel) rfl rfl ⟨_, rfl, h⟩
