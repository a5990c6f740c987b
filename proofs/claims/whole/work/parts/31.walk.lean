/-! walks: X4_largest, X4_loses, X4_lots -/
def eX4_largest_0 : List xI := [(.iload_n 1, 1, 0, 0, 0)]
theorem kX4_largest_0 : xcode (xmb mX4_largest) (xmo mX4_largest) 0 eX4_largest_0 = true := by decide +kernel
def eX4_largest_13 : List xI := [(.aload_n 0, 1, 0, 0, 0)]
theorem kX4_largest_13 : xcode (xmb mX4_largest) (xmo mX4_largest) 13 eX4_largest_13 = true := by decide +kernel
def eX4_largest_17 : List xI := [(.aload_n 0, 1, 0, 0, 0)]
theorem kX4_largest_17 : xcode (xmb mX4_largest) (xmo mX4_largest) 17 eX4_largest_17 = true := by decide +kernel
def eX4_largest_21 : List xI := [(.pop, 1, 0, 0, 0), (.bipush (-9), 2, 0, 0, (-9)), (.istore_n 2, 1, 0, 0, 0), (.iconst 0, 1, 0, 0, (0)), (.istore_n 3, 1, 0, 0, 0)]
theorem kX4_largest_21 : xcode (xmb mX4_largest) (xmo mX4_largest) 21 eX4_largest_21 = true := by decide +kernel
def eX4_largest_27 : List xI := [(.iload_n 3, 1, 0, 0, 0), (.bipush 10, 2, 0, 0, (10))]
theorem kX4_largest_27 : xcode (xmb mX4_largest) (xmo mX4_largest) 27 eX4_largest_27 = true := by decide +kernel
def eX4_largest_149 : List xI := [(.aload_n 0, 1, 0, 0, 0)]
theorem kX4_largest_149 : xcode (xmb mX4_largest) (xmo mX4_largest) 149 eX4_largest_149 = true := by decide +kernel
def eX4_largest_153 : List xI := [(.iload_n 2, 1, 0, 0, 0)]
theorem kX4_largest_153 : xcode (xmb mX4_largest) (xmo mX4_largest) 153 eX4_largest_153 = true := by decide +kernel
def eX4_largest_33 : List xI := [(.iconst 0, 1, 0, 0, (0)), (.istore 4, 2, 0, 0, 0), (.iconst 0, 1, 0, 0, (0)), (.istore 5, 2, 0, 0, 0)]
theorem kX4_largest_33 : xcode (xmb mX4_largest) (xmo mX4_largest) 33 eX4_largest_33 = true := by decide +kernel
def eX4_largest_39 : List xI := [(.iload 5, 2, 0, 0, 0), (.bipush 10, 2, 0, 0, (10))]
theorem kX4_largest_39 : xcode (xmb mX4_largest) (xmo mX4_largest) 39 eX4_largest_39 = true := by decide +kernel
def eX4_largest_120 : List xI := [(.aload_n 0, 1, 0, 0, 0), (.getfield 7, 3, 4, 1, 0), (.iconst 0, 1, 0, 0, (0)), (.iload_n 3, 1, 0, 0, 0), (.iadd, 1, 0, 0, 0), (.iaload, 1, 0, 0, 0)]
theorem kX4_largest_120 : xcode (xmb mX4_largest) (xmo mX4_largest) 120 eX4_largest_120 = true := by decide +kernel
def eX4_largest_141 : List xI := [(.iload_n 2, 1, 0, 0, 0)]
theorem kX4_largest_141 : xcode (xmb mX4_largest) (xmo mX4_largest) 141 eX4_largest_141 = true := by decide +kernel
def eX4_largest_142 : List xI := [(.istore_n 2, 1, 0, 0, 0), (.iinc 3 1, 3, 0, 0, (1))]
theorem kX4_largest_142 : xcode (xmb mX4_largest) (xmo mX4_largest) 142 eX4_largest_142 = true := by decide +kernel
def eX4_largest_131 : List xI := [(.iload 4, 2, 0, 0, 0), (.iload_n 1, 1, 0, 0, 0)]
theorem kX4_largest_131 : xcode (xmb mX4_largest) (xmo mX4_largest) 131 eX4_largest_131 = true := by decide +kernel
def eX4_largest_137 : List xI := [(.iload_n 3, 1, 0, 0, 0)]
theorem kX4_largest_137 : xcode (xmb mX4_largest) (xmo mX4_largest) 137 eX4_largest_137 = true := by decide +kernel
def eX4_largest_46 : List xI := [(.aload_n 0, 1, 0, 0, 0), (.iload 5, 2, 0, 0, 0)]
theorem kX4_largest_46 : xcode (xmb mX4_largest) (xmo mX4_largest) 46 eX4_largest_46 = true := by decide +kernel
def eX4_largest_52 : List xI := [(.aload_n 0, 1, 0, 0, 0), (.iload_n 3, 1, 0, 0, 0)]
theorem kX4_largest_52 : xcode (xmb mX4_largest) (xmo mX4_largest) 52 eX4_largest_52 = true := by decide +kernel
def eX4_largest_80 : List xI := [(.iconst 1, 1, 0, 0, (1))]
theorem kX4_largest_80 : xcode (xmb mX4_largest) (xmo mX4_largest) 80 eX4_largest_80 = true := by decide +kernel
def eX4_largest_85 : List xI := [(.istore 6, 2, 0, 0, 0), (.iload 4, 2, 0, 0, 0), (.aload_n 0, 1, 0, 0, 0), (.getfield 7, 3, 4, 1, 0), (.iconst 0, 1, 0, 0, (0)), (.iload 5, 2, 0, 0, 0), (.iadd, 1, 0, 0, 0), (.iaload, 1, 0, 0, 0)]
theorem kX4_largest_85 : xcode (xmb mX4_largest) (xmo mX4_largest) 85 eX4_largest_85 = true := by decide +kernel
def eX4_largest_110 : List xI := [(.iconst 0, 1, 0, 0, (0))]
theorem kX4_largest_110 : xcode (xmb mX4_largest) (xmo mX4_largest) 110 eX4_largest_110 = true := by decide +kernel
def eX4_largest_111 : List xI := [(.iadd, 1, 0, 0, 0), (.istore 4, 2, 0, 0, 0), (.iinc 5 1, 3, 0, 0, (1))]
theorem kX4_largest_111 : xcode (xmb mX4_largest) (xmo mX4_largest) 111 eX4_largest_111 = true := by decide +kernel
def eX4_largest_101 : List xI := [(.iload 6, 2, 0, 0, 0)]
theorem kX4_largest_101 : xcode (xmb mX4_largest) (xmo mX4_largest) 101 eX4_largest_101 = true := by decide +kernel
def eX4_largest_106 : List xI := [(.iconst 1, 1, 0, 0, (1))]
theorem kX4_largest_106 : xcode (xmb mX4_largest) (xmo mX4_largest) 106 eX4_largest_106 = true := by decide +kernel
def eX4_largest_60 : List xI := [(.aload_n 0, 1, 0, 0, 0), (.iload 5, 2, 0, 0, 0)]
theorem kX4_largest_60 : xcode (xmb mX4_largest) (xmo mX4_largest) 60 eX4_largest_60 = true := by decide +kernel
def eX4_largest_66 : List xI := [(.aload_n 0, 1, 0, 0, 0), (.iload_n 3, 1, 0, 0, 0)]
theorem kX4_largest_66 : xcode (xmb mX4_largest) (xmo mX4_largest) 66 eX4_largest_66 = true := by decide +kernel
def eX4_largest_84 : List xI := [(.iconst 0, 1, 0, 0, (0))]
theorem kX4_largest_84 : xcode (xmb mX4_largest) (xmo mX4_largest) 84 eX4_largest_84 = true := by decide +kernel
def eX4_largest_74 : List xI := [(.iload 5, 2, 0, 0, 0), (.iload_n 3, 1, 0, 0, 0)]
theorem kX4_largest_74 : xcode (xmb mX4_largest) (xmo mX4_largest) 74 eX4_largest_74 = true := by decide +kernel
def eX4_largest_7 : List xI := [(.aload_n 0, 1, 0, 0, 0), (.iconst (-1), 1, 0, 0, (-1))]
theorem kX4_largest_7 : xcode (xmb mX4_largest) (xmo mX4_largest) 7 eX4_largest_7 = true := by decide +kernel
def wX4_largest_142 (p1 : Int32) (Q : Int32 → xM → Prop) (k27 : xM → Int32 → Int32 → Prop) (M : xM) (a3 : Int32) (s0 : Int32) : Prop :=
    k27 M s0 (a3 + (1 : Int32))
set_option maxHeartbeats 4000000 in
set_option maxRecDepth 100000 in
theorem tX4_largest_142 {l : Launch} {E : xE} {p1 : Int32} {Q : Int32 → xM → Prop} {k27 : xM → Int32 → Int32 → Prop} (hk27 : ∀ (M : xM) (a2 : Int32) (a3 : Int32), k27 M a2 a3 → Gx l E mX4_largest (xRi Q) 27 M [some (.ref 50), some (.int p1), some (.int a2), some (.int a3), none, none, none] []) (M : xM) (a3 : Int32) (s0 : Int32) (h : wX4_largest_142 p1 Q k27 M a3 s0) : Gx l E mX4_largest (xRi Q) 142 M [some (.ref 50), some (.int p1), none, some (.int a3), none, none, none] [.int s0] := by
  unfold wX4_largest_142 at h
  refine Gx_run (es := eX4_largest_142) (P := []) (M' := M) (L' := [some (.ref 50), some (.int p1), some (.int s0), some (.int (a3 + (1 : Int32))), none, none, none]) (st' := []) (pc' := 146) kX4_largest_142 rfl trivial rfl ?_
  refine Gx_goto (off := -119) (tgt := 27) (by decide +kernel) (by decide) ?_
  refine Gx_mask [true, true, true, true, false, false, false] (L' := [some (.ref 50), some (.int p1), some (.int s0), some (.int (a3 + (1 : Int32))), none, none, none]) rfl ?_
  exact hk27 M s0 (a3 + (1 : Int32)) h
def wX4_largest_141 (p1 : Int32) (Q : Int32 → xM → Prop) (k27 : xM → Int32 → Int32 → Prop) (M : xM) (a2 : Int32) (a3 : Int32) : Prop :=
    wX4_largest_142 p1 Q k27 M a3 a2
set_option maxHeartbeats 4000000 in
set_option maxRecDepth 100000 in
theorem tX4_largest_141 {l : Launch} {E : xE} {p1 : Int32} {Q : Int32 → xM → Prop} {k27 : xM → Int32 → Int32 → Prop} (hk27 : ∀ (M : xM) (a2 : Int32) (a3 : Int32), k27 M a2 a3 → Gx l E mX4_largest (xRi Q) 27 M [some (.ref 50), some (.int p1), some (.int a2), some (.int a3), none, none, none] []) (M : xM) (a2 : Int32) (a3 : Int32) (h : wX4_largest_141 p1 Q k27 M a2 a3) : Gx l E mX4_largest (xRi Q) 141 M [some (.ref 50), some (.int p1), some (.int a2), some (.int a3), none, none, none] [] := by
  unfold wX4_largest_141 at h
  refine Gx_run (es := eX4_largest_141) (P := []) (M' := M) (L' := [some (.ref 50), some (.int p1), some (.int a2), some (.int a3), none, none, none]) (st' := [.int a2]) (pc' := 142) kX4_largest_141 rfl trivial rfl ?_
  refine Gx_mask [true, true, false, true, false, false, false] (L' := [some (.ref 50), some (.int p1), none, some (.int a3), none, none, none]) rfl ?_
  exact tX4_largest_142  hk27 M a3 a2 h
def wX4_largest_111 (p1 : Int32) (Q : Int32 → xM → Prop) (k27 : xM → Int32 → Int32 → Prop) (k39 : xM → Int32 → Int32 → Int32 → Int32 → Prop) (M : xM) (a2 : Int32) (a3 : Int32) (a5 : Int32) (s0 : Int32) (s1 : Int32) : Prop :=
    k39 M a2 a3 (s1 + s0) (a5 + (1 : Int32))
set_option maxHeartbeats 4000000 in
set_option maxRecDepth 100000 in
theorem tX4_largest_111 {l : Launch} {E : xE} {p1 : Int32} {Q : Int32 → xM → Prop} {k27 : xM → Int32 → Int32 → Prop} {k39 : xM → Int32 → Int32 → Int32 → Int32 → Prop} (hk27 : ∀ (M : xM) (a2 : Int32) (a3 : Int32), k27 M a2 a3 → Gx l E mX4_largest (xRi Q) 27 M [some (.ref 50), some (.int p1), some (.int a2), some (.int a3), none, none, none] []) (hk39 : ∀ (M : xM) (a2 : Int32) (a3 : Int32) (a4 : Int32) (a5 : Int32), k39 M a2 a3 a4 a5 → Gx l E mX4_largest (xRi Q) 39 M [some (.ref 50), some (.int p1), some (.int a2), some (.int a3), some (.int a4), some (.int a5), none] []) (M : xM) (a2 : Int32) (a3 : Int32) (a5 : Int32) (s0 : Int32) (s1 : Int32) (h : wX4_largest_111 p1 Q k27 k39 M a2 a3 a5 s0 s1) : Gx l E mX4_largest (xRi Q) 111 M [some (.ref 50), some (.int p1), some (.int a2), some (.int a3), none, some (.int a5), none] [.int s0, .int s1] := by
  unfold wX4_largest_111 at h
  refine Gx_run (es := eX4_largest_111) (P := []) (M' := M) (L' := [some (.ref 50), some (.int p1), some (.int a2), some (.int a3), some (.int (s1 + s0)), some (.int (a5 + (1 : Int32))), none]) (st' := []) (pc' := 117) kX4_largest_111 rfl trivial rfl ?_
  refine Gx_goto (off := -78) (tgt := 39) (by decide +kernel) (by decide) ?_
  refine Gx_mask [true, true, true, true, true, true, false] (L' := [some (.ref 50), some (.int p1), some (.int a2), some (.int a3), some (.int (s1 + s0)), some (.int (a5 + (1 : Int32))), none]) rfl ?_
  exact hk39 M a2 a3 (s1 + s0) (a5 + (1 : Int32)) h
def wX4_largest_110 (p1 : Int32) (Q : Int32 → xM → Prop) (k27 : xM → Int32 → Int32 → Prop) (k39 : xM → Int32 → Int32 → Int32 → Int32 → Prop) (M : xM) (a2 : Int32) (a3 : Int32) (a5 : Int32) (s0 : Int32) : Prop :=
    wX4_largest_111 p1 Q k27 k39 M a2 a3 a5 (0 : Int32) s0
set_option maxHeartbeats 4000000 in
set_option maxRecDepth 100000 in
theorem tX4_largest_110 {l : Launch} {E : xE} {p1 : Int32} {Q : Int32 → xM → Prop} {k27 : xM → Int32 → Int32 → Prop} {k39 : xM → Int32 → Int32 → Int32 → Int32 → Prop} (hk27 : ∀ (M : xM) (a2 : Int32) (a3 : Int32), k27 M a2 a3 → Gx l E mX4_largest (xRi Q) 27 M [some (.ref 50), some (.int p1), some (.int a2), some (.int a3), none, none, none] []) (hk39 : ∀ (M : xM) (a2 : Int32) (a3 : Int32) (a4 : Int32) (a5 : Int32), k39 M a2 a3 a4 a5 → Gx l E mX4_largest (xRi Q) 39 M [some (.ref 50), some (.int p1), some (.int a2), some (.int a3), some (.int a4), some (.int a5), none] []) (M : xM) (a2 : Int32) (a3 : Int32) (a5 : Int32) (s0 : Int32) (h : wX4_largest_110 p1 Q k27 k39 M a2 a3 a5 s0) : Gx l E mX4_largest (xRi Q) 110 M [some (.ref 50), some (.int p1), some (.int a2), some (.int a3), none, some (.int a5), none] [.int s0] := by
  unfold wX4_largest_110 at h
  refine Gx_run (es := eX4_largest_110) (P := []) (M' := M) (L' := [some (.ref 50), some (.int p1), some (.int a2), some (.int a3), none, some (.int a5), none]) (st' := [.int (0 : Int32), .int s0]) (pc' := 111) kX4_largest_110 rfl trivial rfl ?_
  refine Gx_mask [true, true, true, true, false, true, false] (L' := [some (.ref 50), some (.int p1), some (.int a2), some (.int a3), none, some (.int a5), none]) rfl ?_
  exact tX4_largest_111  hk27 hk39 M a2 a3 a5 (0 : Int32) s0 h
def wX4_largest_85 (p1 : Int32) (Q : Int32 → xM → Prop) (k27 : xM → Int32 → Int32 → Prop) (k39 : xM → Int32 → Int32 → Int32 → Int32 → Prop) (M : xM) (a2 : Int32) (a3 : Int32) (a4 : Int32) (a5 : Int32) (s0 : Int32) : Prop :=
    (vp_in ((0 : Int32) + a5) 147) ∧ ((((M 51 ((0 : Int32) + a5).toNatClampNeg) = 0) → (wX4_largest_110 p1 Q k27 k39 M a2 a3 a5 a4)) ∧ ((¬ (M 51 ((0 : Int32) + a5).toNatClampNeg) = 0) → ((((s0 = 0) → (wX4_largest_110 p1 Q k27 k39 M a2 a3 a5 a4)) ∧ ((¬ s0 = 0) → (wX4_largest_111 p1 Q k27 k39 M a2 a3 a5 (1 : Int32) a4))))))
set_option maxHeartbeats 4000000 in
set_option maxRecDepth 100000 in
theorem tX4_largest_85 {l : Launch} {E : xE} {p1 : Int32} {Q : Int32 → xM → Prop} {k27 : xM → Int32 → Int32 → Prop} {k39 : xM → Int32 → Int32 → Int32 → Int32 → Prop} (hk27 : ∀ (M : xM) (a2 : Int32) (a3 : Int32), k27 M a2 a3 → Gx l E mX4_largest (xRi Q) 27 M [some (.ref 50), some (.int p1), some (.int a2), some (.int a3), none, none, none] []) (hk39 : ∀ (M : xM) (a2 : Int32) (a3 : Int32) (a4 : Int32) (a5 : Int32), k39 M a2 a3 a4 a5 → Gx l E mX4_largest (xRi Q) 39 M [some (.ref 50), some (.int p1), some (.int a2), some (.int a3), some (.int a4), some (.int a5), none] []) (M : xM) (a2 : Int32) (a3 : Int32) (a4 : Int32) (a5 : Int32) (s0 : Int32) (h : wX4_largest_85 p1 Q k27 k39 M a2 a3 a4 a5 s0) : Gx l E mX4_largest (xRi Q) 85 M [some (.ref 50), some (.int p1), some (.int a2), some (.int a3), some (.int a4), some (.int a5), none] [.int s0] := by
  unfold wX4_largest_85 at h
  obtain ⟨g85_0, h⟩ := h
  refine Gx_run (es := eX4_largest_85) (P := [xkd 50 = 4, xkd 51 = 5, vp_in ((0 : Int32) + a5) (xln 51)]) (M' := M) (L' := [some (.ref 50), some (.int p1), some (.int a2), some (.int a3), some (.int a4), some (.int a5), some (.int s0)]) (st' := [.int (M 51 ((0 : Int32) + a5).toNatClampNeg), .int a4]) (pc' := 98) kX4_largest_85 rfl ⟨rfl, rfl, g85_0, trivial⟩ rfl ?_
  refine Gx_if_eq (off := 12) (tgt := 110) (by decide +kernel) (by decide) (fun z => ?_) (fun z => ?_)
  · have h := h.1 z
    refine Gx_mask [true, true, true, true, false, true, false] (L' := [some (.ref 50), some (.int p1), some (.int a2), some (.int a3), none, some (.int a5), none]) rfl ?_
    exact tX4_largest_110  hk27 hk39 M a2 a3 a5 a4 h
  · have h := h.2 z
    refine Gx_run (es := eX4_largest_101) (P := []) (M' := M) (L' := [some (.ref 50), some (.int p1), some (.int a2), some (.int a3), some (.int a4), some (.int a5), some (.int s0)]) (st' := [.int s0, .int a4]) (pc' := 103) kX4_largest_101 rfl trivial rfl ?_
    refine Gx_if_eq (off := 7) (tgt := 110) (by decide +kernel) (by decide) (fun z => ?_) (fun z => ?_)
    · have h := h.1 z
      refine Gx_mask [true, true, true, true, false, true, false] (L' := [some (.ref 50), some (.int p1), some (.int a2), some (.int a3), none, some (.int a5), none]) rfl ?_
      exact tX4_largest_110  hk27 hk39 M a2 a3 a5 a4 h
    · have h := h.2 z
      refine Gx_run (es := eX4_largest_106) (P := []) (M' := M) (L' := [some (.ref 50), some (.int p1), some (.int a2), some (.int a3), some (.int a4), some (.int a5), some (.int s0)]) (st' := [.int (1 : Int32), .int a4]) (pc' := 107) kX4_largest_106 rfl trivial rfl ?_
      refine Gx_goto (off := 4) (tgt := 111) (by decide +kernel) (by decide) ?_
      refine Gx_mask [true, true, true, true, false, true, false] (L' := [some (.ref 50), some (.int p1), some (.int a2), some (.int a3), none, some (.int a5), none]) rfl ?_
      exact tX4_largest_111  hk27 hk39 M a2 a3 a5 (1 : Int32) a4 h
def wX4_largest_80 (p1 : Int32) (Q : Int32 → xM → Prop) (k27 : xM → Int32 → Int32 → Prop) (k39 : xM → Int32 → Int32 → Int32 → Int32 → Prop) (M : xM) (a2 : Int32) (a3 : Int32) (a4 : Int32) (a5 : Int32) : Prop :=
    wX4_largest_85 p1 Q k27 k39 M a2 a3 a4 a5 (1 : Int32)
set_option maxHeartbeats 4000000 in
set_option maxRecDepth 100000 in
theorem tX4_largest_80 {l : Launch} {E : xE} {p1 : Int32} {Q : Int32 → xM → Prop} {k27 : xM → Int32 → Int32 → Prop} {k39 : xM → Int32 → Int32 → Int32 → Int32 → Prop} (hk27 : ∀ (M : xM) (a2 : Int32) (a3 : Int32), k27 M a2 a3 → Gx l E mX4_largest (xRi Q) 27 M [some (.ref 50), some (.int p1), some (.int a2), some (.int a3), none, none, none] []) (hk39 : ∀ (M : xM) (a2 : Int32) (a3 : Int32) (a4 : Int32) (a5 : Int32), k39 M a2 a3 a4 a5 → Gx l E mX4_largest (xRi Q) 39 M [some (.ref 50), some (.int p1), some (.int a2), some (.int a3), some (.int a4), some (.int a5), none] []) (M : xM) (a2 : Int32) (a3 : Int32) (a4 : Int32) (a5 : Int32) (h : wX4_largest_80 p1 Q k27 k39 M a2 a3 a4 a5) : Gx l E mX4_largest (xRi Q) 80 M [some (.ref 50), some (.int p1), some (.int a2), some (.int a3), some (.int a4), some (.int a5), none] [] := by
  unfold wX4_largest_80 at h
  refine Gx_run (es := eX4_largest_80) (P := []) (M' := M) (L' := [some (.ref 50), some (.int p1), some (.int a2), some (.int a3), some (.int a4), some (.int a5), none]) (st' := [.int (1 : Int32)]) (pc' := 81) kX4_largest_80 rfl trivial rfl ?_
  refine Gx_goto (off := 4) (tgt := 85) (by decide +kernel) (by decide) ?_
  refine Gx_mask [true, true, true, true, true, true, false] (L' := [some (.ref 50), some (.int p1), some (.int a2), some (.int a3), some (.int a4), some (.int a5), none]) rfl ?_
  exact tX4_largest_85  hk27 hk39 M a2 a3 a4 a5 (1 : Int32) h
def wX4_largest_84 (p1 : Int32) (Q : Int32 → xM → Prop) (k27 : xM → Int32 → Int32 → Prop) (k39 : xM → Int32 → Int32 → Int32 → Int32 → Prop) (M : xM) (a2 : Int32) (a3 : Int32) (a4 : Int32) (a5 : Int32) : Prop :=
    wX4_largest_85 p1 Q k27 k39 M a2 a3 a4 a5 (0 : Int32)
set_option maxHeartbeats 4000000 in
set_option maxRecDepth 100000 in
theorem tX4_largest_84 {l : Launch} {E : xE} {p1 : Int32} {Q : Int32 → xM → Prop} {k27 : xM → Int32 → Int32 → Prop} {k39 : xM → Int32 → Int32 → Int32 → Int32 → Prop} (hk27 : ∀ (M : xM) (a2 : Int32) (a3 : Int32), k27 M a2 a3 → Gx l E mX4_largest (xRi Q) 27 M [some (.ref 50), some (.int p1), some (.int a2), some (.int a3), none, none, none] []) (hk39 : ∀ (M : xM) (a2 : Int32) (a3 : Int32) (a4 : Int32) (a5 : Int32), k39 M a2 a3 a4 a5 → Gx l E mX4_largest (xRi Q) 39 M [some (.ref 50), some (.int p1), some (.int a2), some (.int a3), some (.int a4), some (.int a5), none] []) (M : xM) (a2 : Int32) (a3 : Int32) (a4 : Int32) (a5 : Int32) (h : wX4_largest_84 p1 Q k27 k39 M a2 a3 a4 a5) : Gx l E mX4_largest (xRi Q) 84 M [some (.ref 50), some (.int p1), some (.int a2), some (.int a3), some (.int a4), some (.int a5), none] [] := by
  unfold wX4_largest_84 at h
  refine Gx_run (es := eX4_largest_84) (P := []) (M' := M) (L' := [some (.ref 50), some (.int p1), some (.int a2), some (.int a3), some (.int a4), some (.int a5), none]) (st' := [.int (0 : Int32)]) (pc' := 85) kX4_largest_84 rfl trivial rfl ?_
  refine Gx_mask [true, true, true, true, true, true, false] (L' := [some (.ref 50), some (.int p1), some (.int a2), some (.int a3), some (.int a4), some (.int a5), none]) rfl ?_
  exact tX4_largest_85  hk27 hk39 M a2 a3 a4 a5 (0 : Int32) h
def lX4_largest_39 (p1 : Int32) (Q : Int32 → xM → Prop) (k27 : xM → Int32 → Int32 → Prop) : Nat → xM → Int32 → Int32 → Int32 → Int32 → Prop
  | 0 => fun _ _ _ _ _ => False
  | n + 1 => let k39 := lX4_largest_39 p1 Q k27 n; fun M a2 a3 a4 a5 =>
    ((((10 : Int32) ≤ a5) → ((vp_in ((0 : Int32) + a3) 147) ∧ ((((M 51 ((0 : Int32) + a3).toNatClampNeg) = 0) → (wX4_largest_141 p1 Q k27 M a2 a3)) ∧ ((¬ (M 51 ((0 : Int32) + a3).toNatClampNeg) = 0) → ((((¬ a4 = p1) → (wX4_largest_141 p1 Q k27 M a2 a3)) ∧ ((a4 = p1) → (wX4_largest_142 p1 Q k27 M a3 a3)))))))) ∧ ((¬ (10 : Int32) ≤ a5) → (wX4_blocksBelow M a5 (fun r49 M49 => wX4_blocksBelow M49 a3 (fun r54 M54 => (((r54 < r49) → (wX4_largest_80 p1 Q k27 k39 M54 a2 a3 a4 a5)) ∧ ((¬ r54 < r49) → (wX4_blocksBelow M54 a5 (fun r63 M63 => wX4_blocksBelow M63 a3 (fun r68 M68 => (((¬ r63 = r68) → (wX4_largest_84 p1 Q k27 k39 M68 a2 a3 a4 a5)) ∧ ((r63 = r68) → ((((a3 ≤ a5) → (wX4_largest_84 p1 Q k27 k39 M68 a2 a3 a4 a5)) ∧ ((¬ a3 ≤ a5) → (wX4_largest_80 p1 Q k27 k39 M68 a2 a3 a4 a5))))))))))))))))
set_option maxHeartbeats 4000000 in
set_option maxRecDepth 100000 in
theorem tX4_largest_39 {l : Launch} {E : xE} {p1 : Int32} {Q : Int32 → xM → Prop} {k27 : xM → Int32 → Int32 → Prop} (hk27 : ∀ (M : xM) (a2 : Int32) (a3 : Int32), k27 M a2 a3 → Gx l E mX4_largest (xRi Q) 27 M [some (.ref 50), some (.int p1), some (.int a2), some (.int a3), none, none, none] []) (n : Nat) : ∀ (M : xM) (a2 : Int32) (a3 : Int32) (a4 : Int32) (a5 : Int32), lX4_largest_39 p1 Q k27 n M a2 a3 a4 a5 → Gx l E mX4_largest (xRi Q) 39 M [some (.ref 50), some (.int p1), some (.int a2), some (.int a3), some (.int a4), some (.int a5), none] [] := by
  induction n with
  | zero => intro M a2 a3 a4 a5 h; exact h.elim
  | succ n hk39 =>
      intro M a2 a3 a4 a5 h
      unfold lX4_largest_39 at h
      dsimp only at h
      refine Gx_run (es := eX4_largest_39) (P := []) (M' := M) (L' := [some (.ref 50), some (.int p1), some (.int a2), some (.int a3), some (.int a4), some (.int a5), none]) (st' := [.int (10 : Int32), .int a5]) (pc' := 43) kX4_largest_39 rfl trivial rfl ?_
      refine Gx_icmp_ge (off := 77) (tgt := 120) (by decide +kernel) (by decide) (fun z => ?_) (fun z => ?_)
      · have h := h.1 z
        obtain ⟨g120_0, h⟩ := h
        refine Gx_run (es := eX4_largest_120) (P := [xkd 50 = 4, xkd 51 = 5, vp_in ((0 : Int32) + a3) (xln 51)]) (M' := M) (L' := [some (.ref 50), some (.int p1), some (.int a2), some (.int a3), some (.int a4), some (.int a5), none]) (st' := [.int (M 51 ((0 : Int32) + a3).toNatClampNeg)]) (pc' := 128) kX4_largest_120 rfl ⟨rfl, rfl, g120_0, trivial⟩ rfl ?_
        refine Gx_if_eq (off := 13) (tgt := 141) (by decide +kernel) (by decide) (fun z => ?_) (fun z => ?_)
        · have h := h.1 z
          refine Gx_mask [true, true, true, true, false, false, false] (L' := [some (.ref 50), some (.int p1), some (.int a2), some (.int a3), none, none, none]) rfl ?_
          exact tX4_largest_141  hk27 M a2 a3 h
        · have h := h.2 z
          refine Gx_run (es := eX4_largest_131) (P := []) (M' := M) (L' := [some (.ref 50), some (.int p1), some (.int a2), some (.int a3), some (.int a4), some (.int a5), none]) (st' := [.int p1, .int a4]) (pc' := 134) kX4_largest_131 rfl trivial rfl ?_
          refine Gx_icmp_ne (off := 7) (tgt := 141) (by decide +kernel) (by decide) (fun z => ?_) (fun z => ?_)
          · have h := h.1 z
            refine Gx_mask [true, true, true, true, false, false, false] (L' := [some (.ref 50), some (.int p1), some (.int a2), some (.int a3), none, none, none]) rfl ?_
            exact tX4_largest_141  hk27 M a2 a3 h
          · have h := h.2 z
            refine Gx_run (es := eX4_largest_137) (P := []) (M' := M) (L' := [some (.ref 50), some (.int p1), some (.int a2), some (.int a3), some (.int a4), some (.int a5), none]) (st' := [.int a3]) (pc' := 138) kX4_largest_137 rfl trivial rfl ?_
            refine Gx_goto (off := 4) (tgt := 142) (by decide +kernel) (by decide) ?_
            refine Gx_mask [true, true, false, true, false, false, false] (L' := [some (.ref 50), some (.int p1), none, some (.int a3), none, none, none]) rfl ?_
            exact tX4_largest_142  hk27 M a3 a3 h
      · have h := h.2 z
        refine Gx_run (es := eX4_largest_46) (P := []) (M' := M) (L' := [some (.ref 50), some (.int p1), some (.int a2), some (.int a3), some (.int a4), some (.int a5), none]) (st' := [.int a5, .ref 50]) (pc' := 49) kX4_largest_46 rfl trivial rfl ?_
        refine Gx_callV (As := [.int a5]) (by decide +kernel) ml_4_217 okX4_blocksBelow mvX4_blocksBelow rfl (by decide) (Nat.le_of_ble_eq_true rfl) rfl rfl rfl (tX4_blocksBelow h) (fun rr M49 qq => ?_)
        obtain ⟨r49, rfl, h⟩ := qq
        show Gx l E mX4_largest _ 52 M49 [some (.ref 50), some (.int p1), some (.int a2), some (.int a3), some (.int a4), some (.int a5), none] [.int r49]
        refine Gx_run (es := eX4_largest_52) (P := []) (M' := M49) (L' := [some (.ref 50), some (.int p1), some (.int a2), some (.int a3), some (.int a4), some (.int a5), none]) (st' := [.int a3, .ref 50, .int r49]) (pc' := 54) kX4_largest_52 rfl trivial rfl ?_
        refine Gx_callV (As := [.int a3]) (by decide +kernel) ml_4_217 okX4_blocksBelow mvX4_blocksBelow rfl (by decide) (Nat.le_of_ble_eq_true rfl) rfl rfl rfl (tX4_blocksBelow h) (fun rr M54 qq => ?_)
        obtain ⟨r54, rfl, h⟩ := qq
        show Gx l E mX4_largest _ 57 M54 [some (.ref 50), some (.int p1), some (.int a2), some (.int a3), some (.int a4), some (.int a5), none] [.int r54, .int r49]
        refine Gx_icmp_gt (off := 23) (tgt := 80) (by decide +kernel) (by decide) (fun z => ?_) (fun z => ?_)
        · have h := h.1 z
          refine Gx_mask [true, true, true, true, true, true, false] (L' := [some (.ref 50), some (.int p1), some (.int a2), some (.int a3), some (.int a4), some (.int a5), none]) rfl ?_
          exact tX4_largest_80  hk27 hk39 M54 a2 a3 a4 a5 h
        · have h := h.2 z
          refine Gx_run (es := eX4_largest_60) (P := []) (M' := M54) (L' := [some (.ref 50), some (.int p1), some (.int a2), some (.int a3), some (.int a4), some (.int a5), none]) (st' := [.int a5, .ref 50]) (pc' := 63) kX4_largest_60 rfl trivial rfl ?_
          refine Gx_callV (As := [.int a5]) (by decide +kernel) ml_4_217 okX4_blocksBelow mvX4_blocksBelow rfl (by decide) (Nat.le_of_ble_eq_true rfl) rfl rfl rfl (tX4_blocksBelow h) (fun rr M63 qq => ?_)
          obtain ⟨r63, rfl, h⟩ := qq
          show Gx l E mX4_largest _ 66 M63 [some (.ref 50), some (.int p1), some (.int a2), some (.int a3), some (.int a4), some (.int a5), none] [.int r63]
          refine Gx_run (es := eX4_largest_66) (P := []) (M' := M63) (L' := [some (.ref 50), some (.int p1), some (.int a2), some (.int a3), some (.int a4), some (.int a5), none]) (st' := [.int a3, .ref 50, .int r63]) (pc' := 68) kX4_largest_66 rfl trivial rfl ?_
          refine Gx_callV (As := [.int a3]) (by decide +kernel) ml_4_217 okX4_blocksBelow mvX4_blocksBelow rfl (by decide) (Nat.le_of_ble_eq_true rfl) rfl rfl rfl (tX4_blocksBelow h) (fun rr M68 qq => ?_)
          obtain ⟨r68, rfl, h⟩ := qq
          show Gx l E mX4_largest _ 71 M68 [some (.ref 50), some (.int p1), some (.int a2), some (.int a3), some (.int a4), some (.int a5), none] [.int r68, .int r63]
          refine Gx_icmp_ne (off := 13) (tgt := 84) (by decide +kernel) (by decide) (fun z => ?_) (fun z => ?_)
          · have h := h.1 z
            refine Gx_mask [true, true, true, true, true, true, false] (L' := [some (.ref 50), some (.int p1), some (.int a2), some (.int a3), some (.int a4), some (.int a5), none]) rfl ?_
            exact tX4_largest_84  hk27 hk39 M68 a2 a3 a4 a5 h
          · have h := h.2 z
            refine Gx_run (es := eX4_largest_74) (P := []) (M' := M68) (L' := [some (.ref 50), some (.int p1), some (.int a2), some (.int a3), some (.int a4), some (.int a5), none]) (st' := [.int a3, .int a5]) (pc' := 77) kX4_largest_74 rfl trivial rfl ?_
            refine Gx_icmp_ge (off := 7) (tgt := 84) (by decide +kernel) (by decide) (fun z => ?_) (fun z => ?_)
            · have h := h.1 z
              refine Gx_mask [true, true, true, true, true, true, false] (L' := [some (.ref 50), some (.int p1), some (.int a2), some (.int a3), some (.int a4), some (.int a5), none]) rfl ?_
              exact tX4_largest_84  hk27 hk39 M68 a2 a3 a4 a5 h
            · have h := h.2 z
              refine Gx_mask [true, true, true, true, true, true, false] (L' := [some (.ref 50), some (.int p1), some (.int a2), some (.int a3), some (.int a4), some (.int a5), none]) rfl ?_
              exact tX4_largest_80  hk27 hk39 M68 a2 a3 a4 a5 h
def lX4_largest_27 (p1 : Int32) (Q : Int32 → xM → Prop) : Nat → xM → Int32 → Int32 → Prop
  | 0 => fun _ _ _ => False
  | n + 1 => let k27 := lX4_largest_27 p1 Q n; fun M a2 a3 =>
    ((((10 : Int32) ≤ a3) → (wX4_goesBack M (fun M150 => Q a2 M150))) ∧ ((¬ (10 : Int32) ≤ a3) → ((∃ n : Nat, lX4_largest_39 p1 Q k27 n M a2 a3 (0 : Int32) (0 : Int32)))))
set_option maxHeartbeats 4000000 in
set_option maxRecDepth 100000 in
theorem tX4_largest_27 {l : Launch} {E : xE} {p1 : Int32} {Q : Int32 → xM → Prop} (n : Nat) : ∀ (M : xM) (a2 : Int32) (a3 : Int32), lX4_largest_27 p1 Q n M a2 a3 → Gx l E mX4_largest (xRi Q) 27 M [some (.ref 50), some (.int p1), some (.int a2), some (.int a3), none, none, none] [] := by
  induction n with
  | zero => intro M a2 a3 h; exact h.elim
  | succ n hk27 =>
      intro M a2 a3 h
      unfold lX4_largest_27 at h
      dsimp only at h
      refine Gx_run (es := eX4_largest_27) (P := []) (M' := M) (L' := [some (.ref 50), some (.int p1), some (.int a2), some (.int a3), none, none, none]) (st' := [.int (10 : Int32), .int a3]) (pc' := 30) kX4_largest_27 rfl trivial rfl ?_
      refine Gx_icmp_ge (off := 119) (tgt := 149) (by decide +kernel) (by decide) (fun z => ?_) (fun z => ?_)
      · have h := h.1 z
        refine Gx_run (es := eX4_largest_149) (P := []) (M' := M) (L' := [some (.ref 50), some (.int p1), some (.int a2), some (.int a3), none, none, none]) (st' := [.ref 50]) (pc' := 150) kX4_largest_149 rfl trivial rfl ?_
        refine Gx_callV (As := []) (by decide +kernel) ml_4_199 okX4_goesBack mvX4_goesBack rfl (by decide) (Nat.le_of_ble_eq_true rfl) rfl rfl rfl (tX4_goesBack h) (fun rr M150 qq => ?_)
        obtain ⟨rfl, h⟩ := qq
        show Gx l E mX4_largest _ 153 M150 [some (.ref 50), some (.int p1), some (.int a2), some (.int a3), none, none, none] []
        refine Gx_run (es := eX4_largest_153) (P := []) (M' := M150) (L' := [some (.ref 50), some (.int p1), some (.int a2), some (.int a3), none, none, none]) (st' := [.int a2]) (pc' := 154) kX4_largest_153 rfl trivial rfl ?_
        exact Gx_iret (by decide +kernel) rfl rfl ⟨_, rfl, h⟩
      · have h := h.2 z
        refine Gx_run (es := eX4_largest_33) (P := []) (M' := M) (L' := [some (.ref 50), some (.int p1), some (.int a2), some (.int a3), some (.int (0 : Int32)), some (.int (0 : Int32)), none]) (st' := []) (pc' := 39) kX4_largest_33 rfl trivial rfl ?_
        refine Gx_mask [true, true, true, true, true, true, false] (L' := [some (.ref 50), some (.int p1), some (.int a2), some (.int a3), some (.int (0 : Int32)), some (.int (0 : Int32)), none]) rfl ?_
        obtain ⟨n, h⟩ := h
        exact tX4_largest_39  hk27 n M a2 a3 (0 : Int32) (0 : Int32) h
def wX4_largest (M : xM) (p1 : Int32) (Q : Int32 → xM → Prop) : Prop :=
    wX4_isInode M p1 (fun r1 M1 => (((¬ r1 = 0) → (wX4_keeps M1 (fun M14 => wX4_checks M14 (fun r18 M18 => (∃ n : Nat, lX4_largest_27 p1 Q n M18 (-9 : Int32) (0 : Int32)))))) ∧ ((r1 = 0) → (wX4_refused M1 (-1 : Int32) (fun r9 M9 => Q r9 M9)))))
set_option maxHeartbeats 4000000 in
set_option maxRecDepth 100000 in
theorem tX4_largest {l : Launch} {E : xE} {M : xM} {p1 : Int32} {Q : Int32 → xM → Prop} (h : wX4_largest M p1 Q) : Ct l E mX4_largest [.ref 50, .int p1] M (xRi Q) := by
  refine Ct_of (by decide +kernel) rfl (Nat.le_of_ble_eq_true rfl) ?_
  unfold wX4_largest at h
  show Gx l E mX4_largest (xRi Q) 0 M [some (.ref 50), some (.int p1), none, none, none, none, none] []
  refine Gx_run (es := eX4_largest_0) (P := []) (M' := M) (L' := [some (.ref 50), some (.int p1), none, none, none, none, none]) (st' := [.int p1]) (pc' := 1) kX4_largest_0 rfl trivial rfl ?_
  refine Gx_callS (As := [.int p1]) (by decide +kernel) ml_4_111 okX4_isInode mvX4_isInode rfl (by decide) (Nat.le_of_ble_eq_true rfl) (tX4_isInode h) (fun rr M1 qq => ?_)
  obtain ⟨r1, rfl, h⟩ := qq
  show Gx l E mX4_largest _ 4 M1 [some (.ref 50), some (.int p1), none, none, none, none, none] [.int r1]
  refine Gx_if_ne (off := 9) (tgt := 13) (by decide +kernel) (by decide) (fun z => ?_) (fun z => ?_)
  · have h := h.1 z
    refine Gx_run (es := eX4_largest_13) (P := []) (M' := M1) (L' := [some (.ref 50), some (.int p1), none, none, none, none, none]) (st' := [.ref 50]) (pc' := 14) kX4_largest_13 rfl trivial rfl ?_
    refine Gx_callV (As := []) (by decide +kernel) ml_4_196 okX4_keeps mvX4_keeps rfl (by decide) (Nat.le_of_ble_eq_true rfl) rfl rfl rfl (tX4_keeps h) (fun rr M14 qq => ?_)
    obtain ⟨rfl, h⟩ := qq
    show Gx l E mX4_largest _ 17 M14 [some (.ref 50), some (.int p1), none, none, none, none, none] []
    refine Gx_run (es := eX4_largest_17) (P := []) (M' := M14) (L' := [some (.ref 50), some (.int p1), none, none, none, none, none]) (st' := [.ref 50]) (pc' := 18) kX4_largest_17 rfl trivial rfl ?_
    refine Gx_callV (As := []) (by decide +kernel) ml_4_100 okX4_checks mvX4_checks rfl (by decide) (Nat.le_of_ble_eq_true rfl) rfl rfl rfl (tX4_checks h) (fun rr M18 qq => ?_)
    obtain ⟨r18, rfl, h⟩ := qq
    show Gx l E mX4_largest _ 21 M18 [some (.ref 50), some (.int p1), none, none, none, none, none] [.int r18]
    refine Gx_run (es := eX4_largest_21) (P := []) (M' := M18) (L' := [some (.ref 50), some (.int p1), some (.int (-9 : Int32)), some (.int (0 : Int32)), none, none, none]) (st' := []) (pc' := 27) kX4_largest_21 rfl trivial rfl ?_
    refine Gx_mask [true, true, true, true, false, false, false] (L' := [some (.ref 50), some (.int p1), some (.int (-9 : Int32)), some (.int (0 : Int32)), none, none, none]) rfl ?_
    obtain ⟨n, h⟩ := h
    exact tX4_largest_27  n M18 (-9 : Int32) (0 : Int32) h
  · have h := h.2 z
    refine Gx_run (es := eX4_largest_7) (P := []) (M' := M1) (L' := [some (.ref 50), some (.int p1), none, none, none, none, none]) (st' := [.int (-1 : Int32), .ref 50]) (pc' := 9) kX4_largest_7 rfl trivial rfl ?_
    refine Gx_callV (As := [.int (-1 : Int32)]) (by decide +kernel) ml_4_55 okX4_refused mvX4_refused rfl (by decide) (Nat.le_of_ble_eq_true rfl) rfl rfl rfl (tX4_refused h) (fun rr M9 qq => ?_)
    obtain ⟨r9, rfl, h⟩ := qq
    show Gx l E mX4_largest _ 12 M9 [some (.ref 50), some (.int p1), none, none, none, none, none] [.int r9]
    exact Gx_iret (by decide +kernel) rfl rfl ⟨_, rfl, h⟩
def eX4_loses_0 : List xI := [(.iload_n 1, 1, 0, 0, 0), (.iconst 0, 1, 0, 0, (0)), (.iconst 2, 1, 0, 0, (2))]
theorem kX4_loses_0 : xcode (xmb mX4_loses) (xmo mX4_loses) 0 eX4_loses_0 = true := by decide +kernel
def eX4_loses_16 : List xI := [(.aload_n 0, 1, 0, 0, 0)]
theorem kX4_loses_16 : xcode (xmb mX4_loses) (xmo mX4_loses) 16 eX4_loses_16 = true := by decide +kernel
def eX4_loses_20 : List xI := [(.aload_n 0, 1, 0, 0, 0), (.sipush 1023, 3, 0, 0, (1023))]
theorem kX4_loses_20 : xcode (xmb mX4_loses) (xmo mX4_loses) 20 eX4_loses_20 = true := by decide +kernel
def eX4_loses_27 : List xI := [(.istore_n 2, 1, 0, 0, 0), (.aload_n 0, 1, 0, 0, 0)]
theorem kX4_loses_27 : xcode (xmb mX4_loses) (xmo mX4_loses) 27 eX4_loses_27 = true := by decide +kernel
def eX4_loses_32 : List xI := [(.istore_n 3, 1, 0, 0, 0), (.aload_n 0, 1, 0, 0, 0)]
theorem kX4_loses_32 : xcode (xmb mX4_loses) (xmo mX4_loses) 32 eX4_loses_32 = true := by decide +kernel
def eX4_loses_37 : List xI := [(.pop, 1, 0, 0, 0), (.iconst 0, 1, 0, 0, (0)), (.istore 4, 2, 0, 0, 0), (.iconst 0, 1, 0, 0, (0)), (.istore 5, 2, 0, 0, 0)]
theorem kX4_loses_37 : xcode (xmb mX4_loses) (xmo mX4_loses) 37 eX4_loses_37 = true := by decide +kernel
def eX4_loses_44 : List xI := [(.iload 5, 2, 0, 0, 0), (.bipush 10, 2, 0, 0, (10))]
theorem kX4_loses_44 : xcode (xmb mX4_loses) (xmo mX4_loses) 44 eX4_loses_44 = true := by decide +kernel
def eX4_loses_91 : List xI := [(.iload_n 3, 1, 0, 0, 0), (.aload_n 0, 1, 0, 0, 0)]
theorem kX4_loses_91 : xcode (xmb mX4_loses) (xmo mX4_loses) 91 eX4_loses_91 = true := by decide +kernel
def eX4_loses_96 : List xI := [(.isub, 1, 0, 0, 0), (.istore 5, 2, 0, 0, 0), (.iload_n 1, 1, 0, 0, 0)]
theorem kX4_loses_96 : xcode (xmb mX4_loses) (xmo mX4_loses) 96 eX4_loses_96 = true := by decide +kernel
def eX4_loses_108 : List xI := [(.iload_n 1, 1, 0, 0, 0), (.iconst 1, 1, 0, 0, (1))]
theorem kX4_loses_108 : xcode (xmb mX4_loses) (xmo mX4_loses) 108 eX4_loses_108 = true := by decide +kernel
def eX4_loses_130 : List xI := [(.iload 5, 2, 0, 0, 0)]
theorem kX4_loses_130 : xcode (xmb mX4_loses) (xmo mX4_loses) 130 eX4_loses_130 = true := by decide +kernel
def eX4_loses_139 : List xI := [(.iload 5, 2, 0, 0, 0)]
theorem kX4_loses_139 : xcode (xmb mX4_loses) (xmo mX4_loses) 139 eX4_loses_139 = true := by decide +kernel
def eX4_loses_141 : List xI := [(.istore 6, 2, 0, 0, 0), (.aload_n 0, 1, 0, 0, 0)]
theorem kX4_loses_141 : xcode (xmb mX4_loses) (xmo mX4_loses) 141 eX4_loses_141 = true := by decide +kernel
def eX4_loses_147 : List xI := [(.iload 6, 2, 0, 0, 0)]
theorem kX4_loses_147 : xcode (xmb mX4_loses) (xmo mX4_loses) 147 eX4_loses_147 = true := by decide +kernel
def eX4_loses_135 : List xI := [(.iconst 0, 1, 0, 0, (0))]
theorem kX4_loses_135 : xcode (xmb mX4_loses) (xmo mX4_loses) 135 eX4_loses_135 = true := by decide +kernel
def eX4_loses_113 : List xI := [(.iload_n 2, 1, 0, 0, 0), (.aload_n 0, 1, 0, 0, 0), (.sipush 1023, 3, 0, 0, (1023))]
theorem kX4_loses_113 : xcode (xmb mX4_loses) (xmo mX4_loses) 113 eX4_loses_113 = true := by decide +kernel
def eX4_loses_121 : List xI := [(.iconst (-1), 1, 0, 0, (-1)), (.ixor, 1, 0, 0, 0), (.iand, 1, 0, 0, 0)]
theorem kX4_loses_121 : xcode (xmb mX4_loses) (xmo mX4_loses) 121 eX4_loses_121 = true := by decide +kernel
def eX4_loses_103 : List xI := [(.iload 4, 2, 0, 0, 0)]
theorem kX4_loses_103 : xcode (xmb mX4_loses) (xmo mX4_loses) 103 eX4_loses_103 = true := by decide +kernel
def eX4_loses_51 : List xI := [(.iload 4, 2, 0, 0, 0), (.aload_n 0, 1, 0, 0, 0), (.getfield 16, 3, 4, 3, 0), (.iconst 0, 1, 0, 0, (0)), (.iload 5, 2, 0, 0, 0), (.iadd, 1, 0, 0, 0), (.iaload, 1, 0, 0, 0)]
theorem kX4_loses_51 : xcode (xmb mX4_loses) (xmo mX4_loses) 51 eX4_loses_51 = true := by decide +kernel
def eX4_loses_81 : List xI := [(.iconst 0, 1, 0, 0, (0))]
theorem kX4_loses_81 : xcode (xmb mX4_loses) (xmo mX4_loses) 81 eX4_loses_81 = true := by decide +kernel
def eX4_loses_82 : List xI := [(.iadd, 1, 0, 0, 0), (.istore 4, 2, 0, 0, 0), (.iinc 5 1, 3, 0, 0, (1))]
theorem kX4_loses_82 : xcode (xmb mX4_loses) (xmo mX4_loses) 82 eX4_loses_82 = true := by decide +kernel
def eX4_loses_65 : List xI := [(.aload_n 0, 1, 0, 0, 0), (.getfield 7, 3, 4, 1, 0), (.iconst 0, 1, 0, 0, (0)), (.iload 5, 2, 0, 0, 0), (.iadd, 1, 0, 0, 0), (.iaload, 1, 0, 0, 0)]
theorem kX4_loses_65 : xcode (xmb mX4_loses) (xmo mX4_loses) 65 eX4_loses_65 = true := by decide +kernel
def eX4_loses_77 : List xI := [(.iconst 1, 1, 0, 0, (1))]
theorem kX4_loses_77 : xcode (xmb mX4_loses) (xmo mX4_loses) 77 eX4_loses_77 = true := by decide +kernel
def eX4_loses_9 : List xI := [(.aload_n 0, 1, 0, 0, 0), (.bipush (-2), 2, 0, 0, (-2))]
theorem kX4_loses_9 : xcode (xmb mX4_loses) (xmo mX4_loses) 9 eX4_loses_9 = true := by decide +kernel
def wX4_loses_141 (p1 : Int32) (Q : Int32 → xM → Prop) (M : xM) (s0 : Int32) : Prop :=
    wX4_goesBack M (fun M144 => Q s0 M144)
set_option maxHeartbeats 4000000 in
set_option maxRecDepth 100000 in
theorem tX4_loses_141 {l : Launch} {E : xE} {p1 : Int32} {Q : Int32 → xM → Prop} (M : xM) (s0 : Int32) (h : wX4_loses_141 p1 Q M s0) : Gx l E mX4_loses (xRi Q) 141 M [some (.ref 50), none, none, none, none, none, none] [.int s0] := by
  unfold wX4_loses_141 at h
  refine Gx_run (es := eX4_loses_141) (P := []) (M' := M) (L' := [some (.ref 50), none, none, none, none, none, some (.int s0)]) (st' := [.ref 50]) (pc' := 144) kX4_loses_141 rfl trivial rfl ?_
  refine Gx_callV (As := []) (by decide +kernel) ml_4_199 okX4_goesBack mvX4_goesBack rfl (by decide) (Nat.le_of_ble_eq_true rfl) rfl rfl rfl (tX4_goesBack h) (fun rr M144 qq => ?_)
  obtain ⟨rfl, h⟩ := qq
  show Gx l E mX4_loses _ 147 M144 [some (.ref 50), none, none, none, none, none, some (.int s0)] []
  refine Gx_run (es := eX4_loses_147) (P := []) (M' := M144) (L' := [some (.ref 50), none, none, none, none, none, some (.int s0)]) (st' := [.int s0]) (pc' := 149) kX4_loses_147 rfl trivial rfl ?_
  exact Gx_iret (by decide +kernel) rfl rfl ⟨_, rfl, h⟩
def wX4_loses_82 (p1 : Int32) (Q : Int32 → xM → Prop) (k44 : xM → Int32 → Int32 → Int32 → Int32 → Prop) (M : xM) (a2 : Int32) (a3 : Int32) (a5 : Int32) (s0 : Int32) (s1 : Int32) : Prop :=
    k44 M a2 a3 (s1 + s0) (a5 + (1 : Int32))
set_option maxHeartbeats 4000000 in
set_option maxRecDepth 100000 in
theorem tX4_loses_82 {l : Launch} {E : xE} {p1 : Int32} {Q : Int32 → xM → Prop} {k44 : xM → Int32 → Int32 → Int32 → Int32 → Prop} (hk44 : ∀ (M : xM) (a2 : Int32) (a3 : Int32) (a4 : Int32) (a5 : Int32), k44 M a2 a3 a4 a5 → Gx l E mX4_loses (xRi Q) 44 M [some (.ref 50), some (.int p1), some (.int a2), some (.int a3), some (.int a4), some (.int a5), none] []) (M : xM) (a2 : Int32) (a3 : Int32) (a5 : Int32) (s0 : Int32) (s1 : Int32) (h : wX4_loses_82 p1 Q k44 M a2 a3 a5 s0 s1) : Gx l E mX4_loses (xRi Q) 82 M [some (.ref 50), some (.int p1), some (.int a2), some (.int a3), none, some (.int a5), none] [.int s0, .int s1] := by
  unfold wX4_loses_82 at h
  refine Gx_run (es := eX4_loses_82) (P := []) (M' := M) (L' := [some (.ref 50), some (.int p1), some (.int a2), some (.int a3), some (.int (s1 + s0)), some (.int (a5 + (1 : Int32))), none]) (st' := []) (pc' := 88) kX4_loses_82 rfl trivial rfl ?_
  refine Gx_goto (off := -44) (tgt := 44) (by decide +kernel) (by decide) ?_
  refine Gx_mask [true, true, true, true, true, true, false] (L' := [some (.ref 50), some (.int p1), some (.int a2), some (.int a3), some (.int (s1 + s0)), some (.int (a5 + (1 : Int32))), none]) rfl ?_
  exact hk44 M a2 a3 (s1 + s0) (a5 + (1 : Int32)) h
def wX4_loses_81 (p1 : Int32) (Q : Int32 → xM → Prop) (k44 : xM → Int32 → Int32 → Int32 → Int32 → Prop) (M : xM) (a2 : Int32) (a3 : Int32) (a5 : Int32) (s0 : Int32) : Prop :=
    wX4_loses_82 p1 Q k44 M a2 a3 a5 (0 : Int32) s0
set_option maxHeartbeats 4000000 in
set_option maxRecDepth 100000 in
theorem tX4_loses_81 {l : Launch} {E : xE} {p1 : Int32} {Q : Int32 → xM → Prop} {k44 : xM → Int32 → Int32 → Int32 → Int32 → Prop} (hk44 : ∀ (M : xM) (a2 : Int32) (a3 : Int32) (a4 : Int32) (a5 : Int32), k44 M a2 a3 a4 a5 → Gx l E mX4_loses (xRi Q) 44 M [some (.ref 50), some (.int p1), some (.int a2), some (.int a3), some (.int a4), some (.int a5), none] []) (M : xM) (a2 : Int32) (a3 : Int32) (a5 : Int32) (s0 : Int32) (h : wX4_loses_81 p1 Q k44 M a2 a3 a5 s0) : Gx l E mX4_loses (xRi Q) 81 M [some (.ref 50), some (.int p1), some (.int a2), some (.int a3), none, some (.int a5), none] [.int s0] := by
  unfold wX4_loses_81 at h
  refine Gx_run (es := eX4_loses_81) (P := []) (M' := M) (L' := [some (.ref 50), some (.int p1), some (.int a2), some (.int a3), none, some (.int a5), none]) (st' := [.int (0 : Int32), .int s0]) (pc' := 82) kX4_loses_81 rfl trivial rfl ?_
  refine Gx_mask [true, true, true, true, false, true, false] (L' := [some (.ref 50), some (.int p1), some (.int a2), some (.int a3), none, some (.int a5), none]) rfl ?_
  exact tX4_loses_82  hk44 M a2 a3 a5 (0 : Int32) s0 h
def lX4_loses_44 (p1 : Int32) (Q : Int32 → xM → Prop) : Nat → xM → Int32 → Int32 → Int32 → Int32 → Prop
  | 0 => fun _ _ _ _ _ => False
  | n + 1 => let k44 := lX4_loses_44 p1 Q n; fun M a2 a3 a4 a5 =>
    ((((10 : Int32) ≤ a5) → (wX4_entries M (fun r93 M93 => (((¬ p1 = 0) → ((((¬ p1 = (1 : Int32)) → ((((0 ≤ (a3 - r93)) → (wX4_loses_141 p1 Q M93 (a3 - r93))) ∧ ((¬ 0 ≤ (a3 - r93)) → (wX4_loses_141 p1 Q M93 (0 : Int32)))))) ∧ ((p1 = (1 : Int32)) → (wX4_blocksOf M93 (1023 : Int32) (fun r118 M118 => wX4_countOf M118 (a2 &&& (r118 ^^^ (-1 : Int32))) (fun r124 M124 => wX4_loses_141 p1 Q M124 r124))))))) ∧ ((p1 = 0) → (wX4_loses_141 p1 Q M93 a4)))))) ∧ ((¬ (10 : Int32) ≤ a5) → ((vp_in ((0 : Int32) + a5) 147) ∧ ((((M 53 ((0 : Int32) + a5).toNatClampNeg) = 0) → (wX4_loses_81 p1 Q k44 M a2 a3 a5 a4)) ∧ ((¬ (M 53 ((0 : Int32) + a5).toNatClampNeg) = 0) → ((vp_in ((0 : Int32) + a5) 147) ∧ (((¬ (M 51 ((0 : Int32) + a5).toNatClampNeg) = 0) → (wX4_loses_81 p1 Q k44 M a2 a3 a5 a4)) ∧ (((M 51 ((0 : Int32) + a5).toNatClampNeg) = 0) → (wX4_loses_82 p1 Q k44 M a2 a3 a5 (1 : Int32) a4)))))))))
set_option maxHeartbeats 4000000 in
set_option maxRecDepth 100000 in
theorem tX4_loses_44 {l : Launch} {E : xE} {p1 : Int32} {Q : Int32 → xM → Prop} (n : Nat) : ∀ (M : xM) (a2 : Int32) (a3 : Int32) (a4 : Int32) (a5 : Int32), lX4_loses_44 p1 Q n M a2 a3 a4 a5 → Gx l E mX4_loses (xRi Q) 44 M [some (.ref 50), some (.int p1), some (.int a2), some (.int a3), some (.int a4), some (.int a5), none] [] := by
  induction n with
  | zero => intro M a2 a3 a4 a5 h; exact h.elim
  | succ n hk44 =>
      intro M a2 a3 a4 a5 h
      unfold lX4_loses_44 at h
      dsimp only at h
      refine Gx_run (es := eX4_loses_44) (P := []) (M' := M) (L' := [some (.ref 50), some (.int p1), some (.int a2), some (.int a3), some (.int a4), some (.int a5), none]) (st' := [.int (10 : Int32), .int a5]) (pc' := 48) kX4_loses_44 rfl trivial rfl ?_
      refine Gx_icmp_ge (off := 43) (tgt := 91) (by decide +kernel) (by decide) (fun z => ?_) (fun z => ?_)
      · have h := h.1 z
        refine Gx_run (es := eX4_loses_91) (P := []) (M' := M) (L' := [some (.ref 50), some (.int p1), some (.int a2), some (.int a3), some (.int a4), some (.int a5), none]) (st' := [.ref 50, .int a3]) (pc' := 93) kX4_loses_91 rfl trivial rfl ?_
        refine Gx_callV (As := []) (by decide +kernel) ml_4_223 okX4_entries mvX4_entries rfl (by decide) (Nat.le_of_ble_eq_true rfl) rfl rfl rfl (tX4_entries h) (fun rr M93 qq => ?_)
        obtain ⟨r93, rfl, h⟩ := qq
        show Gx l E mX4_loses _ 96 M93 [some (.ref 50), some (.int p1), some (.int a2), some (.int a3), some (.int a4), some (.int a5), none] [.int r93, .int a3]
        refine Gx_run (es := eX4_loses_96) (P := []) (M' := M93) (L' := [some (.ref 50), some (.int p1), some (.int a2), some (.int a3), some (.int a4), some (.int (a3 - r93)), none]) (st' := [.int p1]) (pc' := 100) kX4_loses_96 rfl trivial rfl ?_
        refine Gx_if_ne (off := 8) (tgt := 108) (by decide +kernel) (by decide) (fun z => ?_) (fun z => ?_)
        · have h := h.1 z
          refine Gx_run (es := eX4_loses_108) (P := []) (M' := M93) (L' := [some (.ref 50), some (.int p1), some (.int a2), some (.int a3), some (.int a4), some (.int (a3 - r93)), none]) (st' := [.int (1 : Int32), .int p1]) (pc' := 110) kX4_loses_108 rfl trivial rfl ?_
          refine Gx_icmp_ne (off := 20) (tgt := 130) (by decide +kernel) (by decide) (fun z => ?_) (fun z => ?_)
          · have h := h.1 z
            refine Gx_run (es := eX4_loses_130) (P := []) (M' := M93) (L' := [some (.ref 50), some (.int p1), some (.int a2), some (.int a3), some (.int a4), some (.int (a3 - r93)), none]) (st' := [.int (a3 - r93)]) (pc' := 132) kX4_loses_130 rfl trivial rfl ?_
            refine Gx_if_ge (off := 7) (tgt := 139) (by decide +kernel) (by decide) (fun z => ?_) (fun z => ?_)
            · have h := h.1 z
              refine Gx_run (es := eX4_loses_139) (P := []) (M' := M93) (L' := [some (.ref 50), some (.int p1), some (.int a2), some (.int a3), some (.int a4), some (.int (a3 - r93)), none]) (st' := [.int (a3 - r93)]) (pc' := 141) kX4_loses_139 rfl trivial rfl ?_
              refine Gx_mask [true, false, false, false, false, false, false] (L' := [some (.ref 50), none, none, none, none, none, none]) rfl ?_
              exact tX4_loses_141  M93 (a3 - r93) h
            · have h := h.2 z
              refine Gx_run (es := eX4_loses_135) (P := []) (M' := M93) (L' := [some (.ref 50), some (.int p1), some (.int a2), some (.int a3), some (.int a4), some (.int (a3 - r93)), none]) (st' := [.int (0 : Int32)]) (pc' := 136) kX4_loses_135 rfl trivial rfl ?_
              refine Gx_goto (off := 5) (tgt := 141) (by decide +kernel) (by decide) ?_
              refine Gx_mask [true, false, false, false, false, false, false] (L' := [some (.ref 50), none, none, none, none, none, none]) rfl ?_
              exact tX4_loses_141  M93 (0 : Int32) h
          · have h := h.2 z
            refine Gx_run (es := eX4_loses_113) (P := []) (M' := M93) (L' := [some (.ref 50), some (.int p1), some (.int a2), some (.int a3), some (.int a4), some (.int (a3 - r93)), none]) (st' := [.int (1023 : Int32), .ref 50, .int a2]) (pc' := 118) kX4_loses_113 rfl trivial rfl ?_
            refine Gx_callV (As := [.int (1023 : Int32)]) (by decide +kernel) ml_4_208 okX4_blocksOf mvX4_blocksOf rfl (by decide) (Nat.le_of_ble_eq_true rfl) rfl rfl rfl (tX4_blocksOf h) (fun rr M118 qq => ?_)
            obtain ⟨r118, rfl, h⟩ := qq
            show Gx l E mX4_loses _ 121 M118 [some (.ref 50), some (.int p1), some (.int a2), some (.int a3), some (.int a4), some (.int (a3 - r93)), none] [.int r118, .int a2]
            refine Gx_run (es := eX4_loses_121) (P := []) (M' := M118) (L' := [some (.ref 50), some (.int p1), some (.int a2), some (.int a3), some (.int a4), some (.int (a3 - r93)), none]) (st' := [.int (a2 &&& (r118 ^^^ (-1 : Int32)))]) (pc' := 124) kX4_loses_121 rfl trivial rfl ?_
            refine Gx_callS (As := [.int (a2 &&& (r118 ^^^ (-1 : Int32)))]) (by decide +kernel) ml_4_211 okX4_countOf mvX4_countOf rfl (by decide) (Nat.le_of_ble_eq_true rfl) (tX4_countOf h) (fun rr M124 qq => ?_)
            obtain ⟨r124, rfl, h⟩ := qq
            show Gx l E mX4_loses _ 127 M124 [some (.ref 50), some (.int p1), some (.int a2), some (.int a3), some (.int a4), some (.int (a3 - r93)), none] [.int r124]
            refine Gx_goto (off := 14) (tgt := 141) (by decide +kernel) (by decide) ?_
            refine Gx_mask [true, false, false, false, false, false, false] (L' := [some (.ref 50), none, none, none, none, none, none]) rfl ?_
            exact tX4_loses_141  M124 r124 h
        · have h := h.2 z
          refine Gx_run (es := eX4_loses_103) (P := []) (M' := M93) (L' := [some (.ref 50), some (.int p1), some (.int a2), some (.int a3), some (.int a4), some (.int (a3 - r93)), none]) (st' := [.int a4]) (pc' := 105) kX4_loses_103 rfl trivial rfl ?_
          refine Gx_goto (off := 36) (tgt := 141) (by decide +kernel) (by decide) ?_
          refine Gx_mask [true, false, false, false, false, false, false] (L' := [some (.ref 50), none, none, none, none, none, none]) rfl ?_
          exact tX4_loses_141  M93 a4 h
      · have h := h.2 z
        obtain ⟨g51_0, h⟩ := h
        refine Gx_run (es := eX4_loses_51) (P := [xkd 50 = 4, xkd 53 = 5, vp_in ((0 : Int32) + a5) (xln 53)]) (M' := M) (L' := [some (.ref 50), some (.int p1), some (.int a2), some (.int a3), some (.int a4), some (.int a5), none]) (st' := [.int (M 53 ((0 : Int32) + a5).toNatClampNeg), .int a4]) (pc' := 62) kX4_loses_51 rfl ⟨rfl, rfl, g51_0, trivial⟩ rfl ?_
        refine Gx_if_eq (off := 19) (tgt := 81) (by decide +kernel) (by decide) (fun z => ?_) (fun z => ?_)
        · have h := h.1 z
          refine Gx_mask [true, true, true, true, false, true, false] (L' := [some (.ref 50), some (.int p1), some (.int a2), some (.int a3), none, some (.int a5), none]) rfl ?_
          exact tX4_loses_81  hk44 M a2 a3 a5 a4 h
        · have h := h.2 z
          obtain ⟨g65_0, h⟩ := h
          refine Gx_run (es := eX4_loses_65) (P := [xkd 50 = 4, xkd 51 = 5, vp_in ((0 : Int32) + a5) (xln 51)]) (M' := M) (L' := [some (.ref 50), some (.int p1), some (.int a2), some (.int a3), some (.int a4), some (.int a5), none]) (st' := [.int (M 51 ((0 : Int32) + a5).toNatClampNeg), .int a4]) (pc' := 74) kX4_loses_65 rfl ⟨rfl, rfl, g65_0, trivial⟩ rfl ?_
          refine Gx_if_ne (off := 7) (tgt := 81) (by decide +kernel) (by decide) (fun z => ?_) (fun z => ?_)
          · have h := h.1 z
            refine Gx_mask [true, true, true, true, false, true, false] (L' := [some (.ref 50), some (.int p1), some (.int a2), some (.int a3), none, some (.int a5), none]) rfl ?_
            exact tX4_loses_81  hk44 M a2 a3 a5 a4 h
          · have h := h.2 z
            refine Gx_run (es := eX4_loses_77) (P := []) (M' := M) (L' := [some (.ref 50), some (.int p1), some (.int a2), some (.int a3), some (.int a4), some (.int a5), none]) (st' := [.int (1 : Int32), .int a4]) (pc' := 78) kX4_loses_77 rfl trivial rfl ?_
            refine Gx_goto (off := 4) (tgt := 82) (by decide +kernel) (by decide) ?_
            refine Gx_mask [true, true, true, true, false, true, false] (L' := [some (.ref 50), some (.int p1), some (.int a2), some (.int a3), none, some (.int a5), none]) rfl ?_
            exact tX4_loses_82  hk44 M a2 a3 a5 (1 : Int32) a4 h
def wX4_loses (M : xM) (p1 : Int32) (Q : Int32 → xM → Prop) : Prop :=
    wX4_in M p1 (0 : Int32) (2 : Int32) (fun r3 M3 => (((¬ r3 = 0) → (wX4_keeps M3 (fun M17 => wX4_blocksOf M17 (1023 : Int32) (fun r24 M24 => wX4_entries M24 (fun r29 M29 => wX4_checks M29 (fun r34 M34 => (∃ n : Nat, lX4_loses_44 p1 Q n M34 r24 r29 (0 : Int32) (0 : Int32)))))))) ∧ ((r3 = 0) → (wX4_refused M3 (-2 : Int32) (fun r12 M12 => Q r12 M12)))))
set_option maxHeartbeats 4000000 in
set_option maxRecDepth 100000 in
theorem tX4_loses {l : Launch} {E : xE} {M : xM} {p1 : Int32} {Q : Int32 → xM → Prop} (h : wX4_loses M p1 Q) : Ct l E mX4_loses [.ref 50, .int p1] M (xRi Q) := by
  refine Ct_of (by decide +kernel) rfl (Nat.le_of_ble_eq_true rfl) ?_
  unfold wX4_loses at h
  show Gx l E mX4_loses (xRi Q) 0 M [some (.ref 50), some (.int p1), none, none, none, none, none] []
  refine Gx_run (es := eX4_loses_0) (P := []) (M' := M) (L' := [some (.ref 50), some (.int p1), none, none, none, none, none]) (st' := [.int (2 : Int32), .int (0 : Int32), .int p1]) (pc' := 3) kX4_loses_0 rfl trivial rfl ?_
  refine Gx_callS (As := [.int p1, .int (0 : Int32), .int (2 : Int32)]) (by decide +kernel) ml_4_43 okX4_in mvX4_in rfl (by decide) (Nat.le_of_ble_eq_true rfl) (tX4_in h) (fun rr M3 qq => ?_)
  obtain ⟨r3, rfl, h⟩ := qq
  show Gx l E mX4_loses _ 6 M3 [some (.ref 50), some (.int p1), none, none, none, none, none] [.int r3]
  refine Gx_if_ne (off := 10) (tgt := 16) (by decide +kernel) (by decide) (fun z => ?_) (fun z => ?_)
  · have h := h.1 z
    refine Gx_run (es := eX4_loses_16) (P := []) (M' := M3) (L' := [some (.ref 50), some (.int p1), none, none, none, none, none]) (st' := [.ref 50]) (pc' := 17) kX4_loses_16 rfl trivial rfl ?_
    refine Gx_callV (As := []) (by decide +kernel) ml_4_196 okX4_keeps mvX4_keeps rfl (by decide) (Nat.le_of_ble_eq_true rfl) rfl rfl rfl (tX4_keeps h) (fun rr M17 qq => ?_)
    obtain ⟨rfl, h⟩ := qq
    show Gx l E mX4_loses _ 20 M17 [some (.ref 50), some (.int p1), none, none, none, none, none] []
    refine Gx_run (es := eX4_loses_20) (P := []) (M' := M17) (L' := [some (.ref 50), some (.int p1), none, none, none, none, none]) (st' := [.int (1023 : Int32), .ref 50]) (pc' := 24) kX4_loses_20 rfl trivial rfl ?_
    refine Gx_callV (As := [.int (1023 : Int32)]) (by decide +kernel) ml_4_208 okX4_blocksOf mvX4_blocksOf rfl (by decide) (Nat.le_of_ble_eq_true rfl) rfl rfl rfl (tX4_blocksOf h) (fun rr M24 qq => ?_)
    obtain ⟨r24, rfl, h⟩ := qq
    show Gx l E mX4_loses _ 27 M24 [some (.ref 50), some (.int p1), none, none, none, none, none] [.int r24]
    refine Gx_run (es := eX4_loses_27) (P := []) (M' := M24) (L' := [some (.ref 50), some (.int p1), some (.int r24), none, none, none, none]) (st' := [.ref 50]) (pc' := 29) kX4_loses_27 rfl trivial rfl ?_
    refine Gx_callV (As := []) (by decide +kernel) ml_4_223 okX4_entries mvX4_entries rfl (by decide) (Nat.le_of_ble_eq_true rfl) rfl rfl rfl (tX4_entries h) (fun rr M29 qq => ?_)
    obtain ⟨r29, rfl, h⟩ := qq
    show Gx l E mX4_loses _ 32 M29 [some (.ref 50), some (.int p1), some (.int r24), none, none, none, none] [.int r29]
    refine Gx_run (es := eX4_loses_32) (P := []) (M' := M29) (L' := [some (.ref 50), some (.int p1), some (.int r24), some (.int r29), none, none, none]) (st' := [.ref 50]) (pc' := 34) kX4_loses_32 rfl trivial rfl ?_
    refine Gx_callV (As := []) (by decide +kernel) ml_4_100 okX4_checks mvX4_checks rfl (by decide) (Nat.le_of_ble_eq_true rfl) rfl rfl rfl (tX4_checks h) (fun rr M34 qq => ?_)
    obtain ⟨r34, rfl, h⟩ := qq
    show Gx l E mX4_loses _ 37 M34 [some (.ref 50), some (.int p1), some (.int r24), some (.int r29), none, none, none] [.int r34]
    refine Gx_run (es := eX4_loses_37) (P := []) (M' := M34) (L' := [some (.ref 50), some (.int p1), some (.int r24), some (.int r29), some (.int (0 : Int32)), some (.int (0 : Int32)), none]) (st' := []) (pc' := 44) kX4_loses_37 rfl trivial rfl ?_
    refine Gx_mask [true, true, true, true, true, true, false] (L' := [some (.ref 50), some (.int p1), some (.int r24), some (.int r29), some (.int (0 : Int32)), some (.int (0 : Int32)), none]) rfl ?_
    obtain ⟨n, h⟩ := h
    exact tX4_loses_44  n M34 r24 r29 (0 : Int32) (0 : Int32) h
  · have h := h.2 z
    refine Gx_run (es := eX4_loses_9) (P := []) (M' := M3) (L' := [some (.ref 50), some (.int p1), none, none, none, none, none]) (st' := [.int (-2 : Int32), .ref 50]) (pc' := 12) kX4_loses_9 rfl trivial rfl ?_
    refine Gx_callV (As := [.int (-2 : Int32)]) (by decide +kernel) ml_4_55 okX4_refused mvX4_refused rfl (by decide) (Nat.le_of_ble_eq_true rfl) rfl rfl rfl (tX4_refused h) (fun rr M12 qq => ?_)
    obtain ⟨r12, rfl, h⟩ := qq
    show Gx l E mX4_loses _ 15 M12 [some (.ref 50), some (.int p1), none, none, none, none, none] [.int r12]
    exact Gx_iret (by decide +kernel) rfl rfl ⟨_, rfl, h⟩
def eX4_lots_0 : List xI := [(.iload_n 1, 1, 0, 0, 0), (.iconst 1, 1, 0, 0, (1))]
theorem kX4_lots_0 : xcode (xmb mX4_lots) (xmo mX4_lots) 0 eX4_lots_0 = true := by decide +kernel
def eX4_lots_12 : List xI := [(.iload_n 1, 1, 0, 0, 0), (.bipush 20, 2, 0, 0, (20))]
theorem kX4_lots_12 : xcode (xmb mX4_lots) (xmo mX4_lots) 12 eX4_lots_12 = true := by decide +kernel
def eX4_lots_25 : List xI := [(.iload_n 3, 1, 0, 0, 0), (.iconst 0, 1, 0, 0, (0)), (.iconst 1, 1, 0, 0, (1))]
theorem kX4_lots_25 : xcode (xmb mX4_lots) (xmo mX4_lots) 25 eX4_lots_25 = true := by decide +kernel
def eX4_lots_41 : List xI := [(.aload_n 0, 1, 0, 0, 0)]
theorem kX4_lots_41 : xcode (xmb mX4_lots) (xmo mX4_lots) 41 eX4_lots_41 = true := by decide +kernel
def eX4_lots_45 : List xI := [(.aload_n 0, 1, 0, 0, 0), (.iload_n 2, 1, 0, 0, 0), (.putfield 244, 3, 4, 17, 0), (.iconst 0, 1, 0, 0, (0)), (.istore 4, 2, 0, 0, 0), (.iconst 0, 1, 0, 0, (0)), (.istore 5, 2, 0, 0, 0), (.iconst 0, 1, 0, 0, (0)), (.istore 6, 2, 0, 0, 0)]
theorem kX4_lots_45 : xcode (xmb mX4_lots) (xmo mX4_lots) 45 eX4_lots_45 = true := by decide +kernel
def eX4_lots_59 : List xI := [(.iload 6, 2, 0, 0, 0), (.iload_n 1, 1, 0, 0, 0)]
theorem kX4_lots_59 : xcode (xmb mX4_lots) (xmo mX4_lots) 59 eX4_lots_59 = true := by decide +kernel
def eX4_lots_113 : List xI := [(.aload_n 0, 1, 0, 0, 0)]
theorem kX4_lots_113 : xcode (xmb mX4_lots) (xmo mX4_lots) 113 eX4_lots_113 = true := by decide +kernel
def eX4_lots_117 : List xI := [(.iload_n 3, 1, 0, 0, 0)]
theorem kX4_lots_117 : xcode (xmb mX4_lots) (xmo mX4_lots) 117 eX4_lots_117 = true := by decide +kernel
def eX4_lots_126 : List xI := [(.iload 5, 2, 0, 0, 0)]
theorem kX4_lots_126 : xcode (xmb mX4_lots) (xmo mX4_lots) 126 eX4_lots_126 = true := by decide +kernel
def eX4_lots_121 : List xI := [(.iload 4, 2, 0, 0, 0)]
theorem kX4_lots_121 : xcode (xmb mX4_lots) (xmo mX4_lots) 121 eX4_lots_121 = true := by decide +kernel
def eX4_lots_65 : List xI := [(.aload_n 0, 1, 0, 0, 0)]
theorem kX4_lots_65 : xcode (xmb mX4_lots) (xmo mX4_lots) 65 eX4_lots_65 = true := by decide +kernel
def eX4_lots_69 : List xI := [(.iconst 0, 1, 0, 0, (0)), (.istore 7, 2, 0, 0, 0)]
theorem kX4_lots_69 : xcode (xmb mX4_lots) (xmo mX4_lots) 69 eX4_lots_69 = true := by decide +kernel
def eX4_lots_72 : List xI := [(.iload 7, 2, 0, 0, 0), (.bipush 6, 2, 0, 0, (6))]
theorem kX4_lots_72 : xcode (xmb mX4_lots) (xmo mX4_lots) 72 eX4_lots_72 = true := by decide +kernel
def eX4_lots_89 : List xI := [(.iload 4, 2, 0, 0, 0), (.aload_n 0, 1, 0, 0, 0)]
theorem kX4_lots_89 : xcode (xmb mX4_lots) (xmo mX4_lots) 89 eX4_lots_89 = true := by decide +kernel
def eX4_lots_95 : List xI := [(.iadd, 1, 0, 0, 0), (.istore 4, 2, 0, 0, 0), (.iload 5, 2, 0, 0, 0), (.aload_n 0, 1, 0, 0, 0)]
theorem kX4_lots_95 : xcode (xmb mX4_lots) (xmo mX4_lots) 95 eX4_lots_95 = true := by decide +kernel
def eX4_lots_104 : List xI := [(.iadd, 1, 0, 0, 0), (.istore 5, 2, 0, 0, 0), (.iinc 6 1, 3, 0, 0, (1))]
theorem kX4_lots_104 : xcode (xmb mX4_lots) (xmo mX4_lots) 104 eX4_lots_104 = true := by decide +kernel
def eX4_lots_79 : List xI := [(.aload_n 0, 1, 0, 0, 0)]
theorem kX4_lots_79 : xcode (xmb mX4_lots) (xmo mX4_lots) 79 eX4_lots_79 = true := by decide +kernel
def eX4_lots_83 : List xI := [(.iinc 7 1, 3, 0, 0, (1))]
theorem kX4_lots_83 : xcode (xmb mX4_lots) (xmo mX4_lots) 83 eX4_lots_83 = true := by decide +kernel
def eX4_lots_34 : List xI := [(.aload_n 0, 1, 0, 0, 0), (.bipush (-2), 2, 0, 0, (-2))]
theorem kX4_lots_34 : xcode (xmb mX4_lots) (xmo mX4_lots) 34 eX4_lots_34 = true := by decide +kernel
def eX4_lots_18 : List xI := [(.aload_n 0, 1, 0, 0, 0), (.bipush (-6), 2, 0, 0, (-6))]
theorem kX4_lots_18 : xcode (xmb mX4_lots) (xmo mX4_lots) 18 eX4_lots_18 = true := by decide +kernel
def eX4_lots_5 : List xI := [(.aload_n 0, 1, 0, 0, 0), (.bipush (-4), 2, 0, 0, (-4))]
theorem kX4_lots_5 : xcode (xmb mX4_lots) (xmo mX4_lots) 5 eX4_lots_5 = true := by decide +kernel
def wX4_lots_128 (p1 : Int32) (p2 : Int32) (p3 : Int32) (Q : Int32 → xM → Prop) (M : xM) (s0 : Int32) : Prop :=
    Q s0 M
set_option maxHeartbeats 4000000 in
set_option maxRecDepth 100000 in
theorem tX4_lots_128 {l : Launch} {E : xE} {p1 : Int32} {p2 : Int32} {p3 : Int32} {Q : Int32 → xM → Prop} (M : xM) (s0 : Int32) (h : wX4_lots_128 p1 p2 p3 Q M s0) : Gx l E mX4_lots (xRi Q) 128 M [none, none, none, none, none, none, none, none] [.int s0] := by
  unfold wX4_lots_128 at h
  exact Gx_iret (by decide +kernel) rfl rfl ⟨_, rfl, h⟩
def lX4_lots_72 (p1 : Int32) (p2 : Int32) (p3 : Int32) (Q : Int32 → xM → Prop) (k59 : xM → Int32 → Int32 → Int32 → Prop) : Nat → xM → Int32 → Int32 → Int32 → Int32 → Prop
  | 0 => fun _ _ _ _ _ => False
  | n + 1 => let k72 := lX4_lots_72 p1 p2 p3 Q k59 n; fun M a4 a5 a6 a7 =>
    ((((6 : Int32) ≤ a7) → (wX4_checks M (fun r92 M92 => wX4_inodes M92 (fun r101 M101 => k59 M101 (a4 + r92) (a5 + r101) (a6 + (1 : Int32)))))) ∧ ((¬ (6 : Int32) ≤ a7) → (wX4_damages M (fun M80 => k72 M80 a4 a5 a6 (a7 + (1 : Int32))))))
set_option maxHeartbeats 4000000 in
set_option maxRecDepth 100000 in
theorem tX4_lots_72 {l : Launch} {E : xE} {p1 : Int32} {p2 : Int32} {p3 : Int32} {Q : Int32 → xM → Prop} {k59 : xM → Int32 → Int32 → Int32 → Prop} (hk59 : ∀ (M : xM) (a4 : Int32) (a5 : Int32) (a6 : Int32), k59 M a4 a5 a6 → Gx l E mX4_lots (xRi Q) 59 M [some (.ref 50), some (.int p1), none, some (.int p3), some (.int a4), some (.int a5), some (.int a6), none] []) (n : Nat) : ∀ (M : xM) (a4 : Int32) (a5 : Int32) (a6 : Int32) (a7 : Int32), lX4_lots_72 p1 p2 p3 Q k59 n M a4 a5 a6 a7 → Gx l E mX4_lots (xRi Q) 72 M [some (.ref 50), some (.int p1), none, some (.int p3), some (.int a4), some (.int a5), some (.int a6), some (.int a7)] [] := by
  induction n with
  | zero => intro M a4 a5 a6 a7 h; exact h.elim
  | succ n hk72 =>
      intro M a4 a5 a6 a7 h
      unfold lX4_lots_72 at h
      dsimp only at h
      refine Gx_run (es := eX4_lots_72) (P := []) (M' := M) (L' := [some (.ref 50), some (.int p1), none, some (.int p3), some (.int a4), some (.int a5), some (.int a6), some (.int a7)]) (st' := [.int (6 : Int32), .int a7]) (pc' := 76) kX4_lots_72 rfl trivial rfl ?_
      refine Gx_icmp_ge (off := 13) (tgt := 89) (by decide +kernel) (by decide) (fun z => ?_) (fun z => ?_)
      · have h := h.1 z
        refine Gx_run (es := eX4_lots_89) (P := []) (M' := M) (L' := [some (.ref 50), some (.int p1), none, some (.int p3), some (.int a4), some (.int a5), some (.int a6), some (.int a7)]) (st' := [.ref 50, .int a4]) (pc' := 92) kX4_lots_89 rfl trivial rfl ?_
        refine Gx_callV (As := []) (by decide +kernel) ml_4_100 okX4_checks mvX4_checks rfl (by decide) (Nat.le_of_ble_eq_true rfl) rfl rfl rfl (tX4_checks h) (fun rr M92 qq => ?_)
        obtain ⟨r92, rfl, h⟩ := qq
        show Gx l E mX4_lots _ 95 M92 [some (.ref 50), some (.int p1), none, some (.int p3), some (.int a4), some (.int a5), some (.int a6), some (.int a7)] [.int r92, .int a4]
        refine Gx_run (es := eX4_lots_95) (P := []) (M' := M92) (L' := [some (.ref 50), some (.int p1), none, some (.int p3), some (.int (a4 + r92)), some (.int a5), some (.int a6), some (.int a7)]) (st' := [.ref 50, .int a5]) (pc' := 101) kX4_lots_95 rfl trivial rfl ?_
        refine Gx_callV (As := []) (by decide +kernel) ml_4_230 okX4_inodes mvX4_inodes rfl (by decide) (Nat.le_of_ble_eq_true rfl) rfl rfl rfl (tX4_inodes h) (fun rr M101 qq => ?_)
        obtain ⟨r101, rfl, h⟩ := qq
        show Gx l E mX4_lots _ 104 M101 [some (.ref 50), some (.int p1), none, some (.int p3), some (.int (a4 + r92)), some (.int a5), some (.int a6), some (.int a7)] [.int r101, .int a5]
        refine Gx_run (es := eX4_lots_104) (P := []) (M' := M101) (L' := [some (.ref 50), some (.int p1), none, some (.int p3), some (.int (a4 + r92)), some (.int (a5 + r101)), some (.int (a6 + (1 : Int32))), some (.int a7)]) (st' := []) (pc' := 110) kX4_lots_104 rfl trivial rfl ?_
        refine Gx_goto (off := -51) (tgt := 59) (by decide +kernel) (by decide) ?_
        refine Gx_mask [true, true, false, true, true, true, true, false] (L' := [some (.ref 50), some (.int p1), none, some (.int p3), some (.int (a4 + r92)), some (.int (a5 + r101)), some (.int (a6 + (1 : Int32))), none]) rfl ?_
        exact hk59 M101 (a4 + r92) (a5 + r101) (a6 + (1 : Int32)) h
      · have h := h.2 z
        refine Gx_run (es := eX4_lots_79) (P := []) (M' := M) (L' := [some (.ref 50), some (.int p1), none, some (.int p3), some (.int a4), some (.int a5), some (.int a6), some (.int a7)]) (st' := [.ref 50]) (pc' := 80) kX4_lots_79 rfl trivial rfl ?_
        refine Gx_callV (As := []) (by decide +kernel) ml_4_253 okX4_damages mvX4_damages rfl (by decide) (Nat.le_of_ble_eq_true rfl) rfl rfl rfl (tX4_damages h) (fun rr M80 qq => ?_)
        obtain ⟨rfl, h⟩ := qq
        show Gx l E mX4_lots _ 83 M80 [some (.ref 50), some (.int p1), none, some (.int p3), some (.int a4), some (.int a5), some (.int a6), some (.int a7)] []
        refine Gx_run (es := eX4_lots_83) (P := []) (M' := M80) (L' := [some (.ref 50), some (.int p1), none, some (.int p3), some (.int a4), some (.int a5), some (.int a6), some (.int (a7 + (1 : Int32)))]) (st' := []) (pc' := 86) kX4_lots_83 rfl trivial rfl ?_
        refine Gx_goto (off := -14) (tgt := 72) (by decide +kernel) (by decide) ?_
        refine Gx_mask [true, true, false, true, true, true, true, true] (L' := [some (.ref 50), some (.int p1), none, some (.int p3), some (.int a4), some (.int a5), some (.int a6), some (.int (a7 + (1 : Int32)))]) rfl ?_
        exact hk72 M80 a4 a5 a6 (a7 + (1 : Int32)) h
def lX4_lots_59 (p1 : Int32) (p2 : Int32) (p3 : Int32) (Q : Int32 → xM → Prop) : Nat → xM → Int32 → Int32 → Int32 → Prop
  | 0 => fun _ _ _ _ => False
  | n + 1 => let k59 := lX4_lots_59 p1 p2 p3 Q n; fun M a4 a5 a6 =>
    (((p1 ≤ a6) → (wX4_goesBack M (fun M114 => (((¬ p3 = 0) → (wX4_lots_128 p1 p2 p3 Q M114 a5)) ∧ ((p3 = 0) → (wX4_lots_128 p1 p2 p3 Q M114 a4)))))) ∧ ((¬ p1 ≤ a6) → (wX4_goesBack M (fun M66 => (∃ n : Nat, lX4_lots_72 p1 p2 p3 Q k59 n M66 a4 a5 a6 (0 : Int32))))))
set_option maxHeartbeats 4000000 in
set_option maxRecDepth 100000 in
theorem tX4_lots_59 {l : Launch} {E : xE} {p1 : Int32} {p2 : Int32} {p3 : Int32} {Q : Int32 → xM → Prop} (n : Nat) : ∀ (M : xM) (a4 : Int32) (a5 : Int32) (a6 : Int32), lX4_lots_59 p1 p2 p3 Q n M a4 a5 a6 → Gx l E mX4_lots (xRi Q) 59 M [some (.ref 50), some (.int p1), none, some (.int p3), some (.int a4), some (.int a5), some (.int a6), none] [] := by
  induction n with
  | zero => intro M a4 a5 a6 h; exact h.elim
  | succ n hk59 =>
      intro M a4 a5 a6 h
      unfold lX4_lots_59 at h
      dsimp only at h
      refine Gx_run (es := eX4_lots_59) (P := []) (M' := M) (L' := [some (.ref 50), some (.int p1), none, some (.int p3), some (.int a4), some (.int a5), some (.int a6), none]) (st' := [.int p1, .int a6]) (pc' := 62) kX4_lots_59 rfl trivial rfl ?_
      refine Gx_icmp_ge (off := 51) (tgt := 113) (by decide +kernel) (by decide) (fun z => ?_) (fun z => ?_)
      · have h := h.1 z
        refine Gx_run (es := eX4_lots_113) (P := []) (M' := M) (L' := [some (.ref 50), some (.int p1), none, some (.int p3), some (.int a4), some (.int a5), some (.int a6), none]) (st' := [.ref 50]) (pc' := 114) kX4_lots_113 rfl trivial rfl ?_
        refine Gx_callV (As := []) (by decide +kernel) ml_4_199 okX4_goesBack mvX4_goesBack rfl (by decide) (Nat.le_of_ble_eq_true rfl) rfl rfl rfl (tX4_goesBack h) (fun rr M114 qq => ?_)
        obtain ⟨rfl, h⟩ := qq
        show Gx l E mX4_lots _ 117 M114 [some (.ref 50), some (.int p1), none, some (.int p3), some (.int a4), some (.int a5), some (.int a6), none] []
        refine Gx_run (es := eX4_lots_117) (P := []) (M' := M114) (L' := [some (.ref 50), some (.int p1), none, some (.int p3), some (.int a4), some (.int a5), some (.int a6), none]) (st' := [.int p3]) (pc' := 118) kX4_lots_117 rfl trivial rfl ?_
        refine Gx_if_ne (off := 8) (tgt := 126) (by decide +kernel) (by decide) (fun z => ?_) (fun z => ?_)
        · have h := h.1 z
          refine Gx_run (es := eX4_lots_126) (P := []) (M' := M114) (L' := [some (.ref 50), some (.int p1), none, some (.int p3), some (.int a4), some (.int a5), some (.int a6), none]) (st' := [.int a5]) (pc' := 128) kX4_lots_126 rfl trivial rfl ?_
          refine Gx_mask [false, false, false, false, false, false, false, false] (L' := [none, none, none, none, none, none, none, none]) rfl ?_
          exact tX4_lots_128  M114 a5 h
        · have h := h.2 z
          refine Gx_run (es := eX4_lots_121) (P := []) (M' := M114) (L' := [some (.ref 50), some (.int p1), none, some (.int p3), some (.int a4), some (.int a5), some (.int a6), none]) (st' := [.int a4]) (pc' := 123) kX4_lots_121 rfl trivial rfl ?_
          refine Gx_goto (off := 5) (tgt := 128) (by decide +kernel) (by decide) ?_
          refine Gx_mask [false, false, false, false, false, false, false, false] (L' := [none, none, none, none, none, none, none, none]) rfl ?_
          exact tX4_lots_128  M114 a4 h
      · have h := h.2 z
        refine Gx_run (es := eX4_lots_65) (P := []) (M' := M) (L' := [some (.ref 50), some (.int p1), none, some (.int p3), some (.int a4), some (.int a5), some (.int a6), none]) (st' := [.ref 50]) (pc' := 66) kX4_lots_65 rfl trivial rfl ?_
        refine Gx_callV (As := []) (by decide +kernel) ml_4_199 okX4_goesBack mvX4_goesBack rfl (by decide) (Nat.le_of_ble_eq_true rfl) rfl rfl rfl (tX4_goesBack h) (fun rr M66 qq => ?_)
        obtain ⟨rfl, h⟩ := qq
        show Gx l E mX4_lots _ 69 M66 [some (.ref 50), some (.int p1), none, some (.int p3), some (.int a4), some (.int a5), some (.int a6), none] []
        refine Gx_run (es := eX4_lots_69) (P := []) (M' := M66) (L' := [some (.ref 50), some (.int p1), none, some (.int p3), some (.int a4), some (.int a5), some (.int a6), some (.int (0 : Int32))]) (st' := []) (pc' := 72) kX4_lots_69 rfl trivial rfl ?_
        refine Gx_mask [true, true, false, true, true, true, true, true] (L' := [some (.ref 50), some (.int p1), none, some (.int p3), some (.int a4), some (.int a5), some (.int a6), some (.int (0 : Int32))]) rfl ?_
        obtain ⟨n, h⟩ := h
        exact tX4_lots_72  hk59 n M66 a4 a5 a6 (0 : Int32) h
def wX4_lots (M : xM) (p1 : Int32) (p2 : Int32) (p3 : Int32) (Q : Int32 → xM → Prop) : Prop :=
    ((((1 : Int32) ≤ p1) → ((((p1 ≤ (20 : Int32)) → (wX4_in M p3 (0 : Int32) (1 : Int32) (fun r28 M28 => (((¬ r28 = 0) → (wX4_keeps M28 (fun M42 => (∃ n : Nat, lX4_lots_59 p1 p2 p3 Q n (xup M42 50 17 p2) (0 : Int32) (0 : Int32) (0 : Int32))))) ∧ ((r28 = 0) → (wX4_refused M28 (-2 : Int32) (fun r37 M37 => Q r37 M37))))))) ∧ ((¬ p1 ≤ (20 : Int32)) → (wX4_refused M (-6 : Int32) (fun r21 M21 => Q r21 M21)))))) ∧ ((¬ (1 : Int32) ≤ p1) → (wX4_refused M (-4 : Int32) (fun r8 M8 => Q r8 M8))))
set_option maxHeartbeats 4000000 in
set_option maxRecDepth 100000 in
theorem tX4_lots {l : Launch} {E : xE} {M : xM} {p1 : Int32} {p2 : Int32} {p3 : Int32} {Q : Int32 → xM → Prop} (h : wX4_lots M p1 p2 p3 Q) : Ct l E mX4_lots [.ref 50, .int p1, .int p2, .int p3] M (xRi Q) := by
  refine Ct_of (by decide +kernel) rfl (Nat.le_of_ble_eq_true rfl) ?_
  unfold wX4_lots at h
  show Gx l E mX4_lots (xRi Q) 0 M [some (.ref 50), some (.int p1), some (.int p2), some (.int p3), none, none, none, none] []
  refine Gx_run (es := eX4_lots_0) (P := []) (M' := M) (L' := [some (.ref 50), some (.int p1), some (.int p2), some (.int p3), none, none, none, none]) (st' := [.int (1 : Int32), .int p1]) (pc' := 2) kX4_lots_0 rfl trivial rfl ?_
  refine Gx_icmp_ge (off := 10) (tgt := 12) (by decide +kernel) (by decide) (fun z => ?_) (fun z => ?_)
  · have h := h.1 z
    refine Gx_run (es := eX4_lots_12) (P := []) (M' := M) (L' := [some (.ref 50), some (.int p1), some (.int p2), some (.int p3), none, none, none, none]) (st' := [.int (20 : Int32), .int p1]) (pc' := 15) kX4_lots_12 rfl trivial rfl ?_
    refine Gx_icmp_le (off := 10) (tgt := 25) (by decide +kernel) (by decide) (fun z => ?_) (fun z => ?_)
    · have h := h.1 z
      refine Gx_run (es := eX4_lots_25) (P := []) (M' := M) (L' := [some (.ref 50), some (.int p1), some (.int p2), some (.int p3), none, none, none, none]) (st' := [.int (1 : Int32), .int (0 : Int32), .int p3]) (pc' := 28) kX4_lots_25 rfl trivial rfl ?_
      refine Gx_callS (As := [.int p3, .int (0 : Int32), .int (1 : Int32)]) (by decide +kernel) ml_4_43 okX4_in mvX4_in rfl (by decide) (Nat.le_of_ble_eq_true rfl) (tX4_in h) (fun rr M28 qq => ?_)
      obtain ⟨r28, rfl, h⟩ := qq
      show Gx l E mX4_lots _ 31 M28 [some (.ref 50), some (.int p1), some (.int p2), some (.int p3), none, none, none, none] [.int r28]
      refine Gx_if_ne (off := 10) (tgt := 41) (by decide +kernel) (by decide) (fun z => ?_) (fun z => ?_)
      · have h := h.1 z
        refine Gx_run (es := eX4_lots_41) (P := []) (M' := M28) (L' := [some (.ref 50), some (.int p1), some (.int p2), some (.int p3), none, none, none, none]) (st' := [.ref 50]) (pc' := 42) kX4_lots_41 rfl trivial rfl ?_
        refine Gx_callV (As := []) (by decide +kernel) ml_4_196 okX4_keeps mvX4_keeps rfl (by decide) (Nat.le_of_ble_eq_true rfl) rfl rfl rfl (tX4_keeps h) (fun rr M42 qq => ?_)
        obtain ⟨rfl, h⟩ := qq
        show Gx l E mX4_lots _ 45 M42 [some (.ref 50), some (.int p1), some (.int p2), some (.int p3), none, none, none, none] []
        refine Gx_run (es := eX4_lots_45) (P := [xkd 50 = 4]) (M' := (xup M42 50 17 p2)) (L' := [some (.ref 50), some (.int p1), some (.int p2), some (.int p3), some (.int (0 : Int32)), some (.int (0 : Int32)), some (.int (0 : Int32)), none]) (st' := []) (pc' := 59) kX4_lots_45 rfl ⟨rfl, trivial⟩ rfl ?_
        refine Gx_mask [true, true, false, true, true, true, true, false] (L' := [some (.ref 50), some (.int p1), none, some (.int p3), some (.int (0 : Int32)), some (.int (0 : Int32)), some (.int (0 : Int32)), none]) rfl ?_
        obtain ⟨n, h⟩ := h
        exact tX4_lots_59  n (xup M42 50 17 p2) (0 : Int32) (0 : Int32) (0 : Int32) h
      · have h := h.2 z
        refine Gx_run (es := eX4_lots_34) (P := []) (M' := M28) (L' := [some (.ref 50), some (.int p1), some (.int p2), some (.int p3), none, none, none, none]) (st' := [.int (-2 : Int32), .ref 50]) (pc' := 37) kX4_lots_34 rfl trivial rfl ?_
        refine Gx_callV (As := [.int (-2 : Int32)]) (by decide +kernel) ml_4_55 okX4_refused mvX4_refused rfl (by decide) (Nat.le_of_ble_eq_true rfl) rfl rfl rfl (tX4_refused h) (fun rr M37 qq => ?_)
        obtain ⟨r37, rfl, h⟩ := qq
        show Gx l E mX4_lots _ 40 M37 [some (.ref 50), some (.int p1), some (.int p2), some (.int p3), none, none, none, none] [.int r37]
        exact Gx_iret (by decide +kernel) rfl rfl ⟨_, rfl, h⟩
    · have h := h.2 z
      refine Gx_run (es := eX4_lots_18) (P := []) (M' := M) (L' := [some (.ref 50), some (.int p1), some (.int p2), some (.int p3), none, none, none, none]) (st' := [.int (-6 : Int32), .ref 50]) (pc' := 21) kX4_lots_18 rfl trivial rfl ?_
      refine Gx_callV (As := [.int (-6 : Int32)]) (by decide +kernel) ml_4_55 okX4_refused mvX4_refused rfl (by decide) (Nat.le_of_ble_eq_true rfl) rfl rfl rfl (tX4_refused h) (fun rr M21 qq => ?_)
      obtain ⟨r21, rfl, h⟩ := qq
      show Gx l E mX4_lots _ 24 M21 [some (.ref 50), some (.int p1), some (.int p2), some (.int p3), none, none, none, none] [.int r21]
      exact Gx_iret (by decide +kernel) rfl rfl ⟨_, rfl, h⟩
  · have h := h.2 z
    refine Gx_run (es := eX4_lots_5) (P := []) (M' := M) (L' := [some (.ref 50), some (.int p1), some (.int p2), some (.int p3), none, none, none, none]) (st' := [.int (-4 : Int32), .ref 50]) (pc' := 8) kX4_lots_5 rfl trivial rfl ?_
    refine Gx_callV (As := [.int (-4 : Int32)]) (by decide +kernel) ml_4_55 okX4_refused mvX4_refused rfl (by decide) (Nat.le_of_ble_eq_true rfl) rfl rfl rfl (tX4_refused h) (fun rr M8 qq => ?_)
    obtain ⟨r8, rfl, h⟩ := qq
    show Gx l E mX4_lots _ 11 M8 [some (.ref 50), some (.int p1), some (.int p2), some (.int p3), none, none, none, none] [.int r8]
    exact Gx_iret (by decide +kernel) rfl rfl ⟨_, rfl, h⟩
