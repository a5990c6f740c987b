/-! walks: X4_lone, X4_looksAtPointer, X4_looksAtSlot, X4_marks, X4_pointer -/
def eX4_lone_0 : List xI := [(.aload_n 0, 1, 0, 0, 0), (.iconst 0, 1, 0, 0, (0)), (.iconst 1, 1, 0, 0, (1))]
theorem kX4_lone_0 : xcode (xmb mX4_lone) (xmo mX4_lone) 0 eX4_lone_0 = true := by decide +kernel
def eX4_lone_6 : List xI := [(.istore_n 1, 1, 0, 0, 0), (.iconst (-1), 1, 0, 0, (-1)), (.istore_n 2, 1, 0, 0, 0), (.bipush 9, 2, 0, 0, (9)), (.istore_n 3, 1, 0, 0, 0)]
theorem kX4_lone_6 : xcode (xmb mX4_lone) (xmo mX4_lone) 6 eX4_lone_6 = true := by decide +kernel
def eX4_lone_12 : List xI := [(.iload_n 3, 1, 0, 0, 0)]
theorem kX4_lone_12 : xcode (xmb mX4_lone) (xmo mX4_lone) 12 eX4_lone_12 = true := by decide +kernel
def eX4_lone_106 : List xI := [(.iload_n 2, 1, 0, 0, 0)]
theorem kX4_lone_106 : xcode (xmb mX4_lone) (xmo mX4_lone) 106 eX4_lone_106 = true := by decide +kernel
def eX4_lone_16 : List xI := [(.aload_n 0, 1, 0, 0, 0), (.iload_n 3, 1, 0, 0, 0)]
theorem kX4_lone_16 : xcode (xmb mX4_lone) (xmo mX4_lone) 16 eX4_lone_16 = true := by decide +kernel
def eX4_lone_36 : List xI := [(.iconst 0, 1, 0, 0, (0))]
theorem kX4_lone_36 : xcode (xmb mX4_lone) (xmo mX4_lone) 36 eX4_lone_36 = true := by decide +kernel
def eX4_lone_37 : List xI := [(.istore 4, 2, 0, 0, 0), (.iload 4, 2, 0, 0, 0)]
theorem kX4_lone_37 : xcode (xmb mX4_lone) (xmo mX4_lone) 37 eX4_lone_37 = true := by decide +kernel
def eX4_lone_56 : List xI := [(.iconst 0, 1, 0, 0, (0))]
theorem kX4_lone_56 : xcode (xmb mX4_lone) (xmo mX4_lone) 56 eX4_lone_56 = true := by decide +kernel
def eX4_lone_57 : List xI := [(.istore 5, 2, 0, 0, 0), (.iload_n 2, 1, 0, 0, 0), (.iconst (-1), 1, 0, 0, (-1))]
theorem kX4_lone_57 : xcode (xmb mX4_lone) (xmo mX4_lone) 57 eX4_lone_57 = true := by decide +kernel
def eX4_lone_76 : List xI := [(.iconst 0, 1, 0, 0, (0))]
theorem kX4_lone_76 : xcode (xmb mX4_lone) (xmo mX4_lone) 76 eX4_lone_76 = true := by decide +kernel
def eX4_lone_77 : List xI := [(.istore 6, 2, 0, 0, 0), (.iload 4, 2, 0, 0, 0)]
theorem kX4_lone_77 : xcode (xmb mX4_lone) (xmo mX4_lone) 77 eX4_lone_77 = true := by decide +kernel
def eX4_lone_98 : List xI := [(.iload_n 2, 1, 0, 0, 0)]
theorem kX4_lone_98 : xcode (xmb mX4_lone) (xmo mX4_lone) 98 eX4_lone_98 = true := by decide +kernel
def eX4_lone_99 : List xI := [(.istore_n 2, 1, 0, 0, 0), (.iinc 3 (-1), 3, 0, 0, (-1))]
theorem kX4_lone_99 : xcode (xmb mX4_lone) (xmo mX4_lone) 99 eX4_lone_99 = true := by decide +kernel
def eX4_lone_84 : List xI := [(.iload 5, 2, 0, 0, 0)]
theorem kX4_lone_84 : xcode (xmb mX4_lone) (xmo mX4_lone) 84 eX4_lone_84 = true := by decide +kernel
def eX4_lone_94 : List xI := [(.iload_n 3, 1, 0, 0, 0)]
theorem kX4_lone_94 : xcode (xmb mX4_lone) (xmo mX4_lone) 94 eX4_lone_94 = true := by decide +kernel
def eX4_lone_89 : List xI := [(.iload 6, 2, 0, 0, 0)]
theorem kX4_lone_89 : xcode (xmb mX4_lone) (xmo mX4_lone) 89 eX4_lone_89 = true := by decide +kernel
def eX4_lone_64 : List xI := [(.aload_n 0, 1, 0, 0, 0), (.iload_n 2, 1, 0, 0, 0)]
theorem kX4_lone_64 : xcode (xmb mX4_lone) (xmo mX4_lone) 64 eX4_lone_64 = true := by decide +kernel
def eX4_lone_72 : List xI := [(.iconst 1, 1, 0, 0, (1))]
theorem kX4_lone_72 : xcode (xmb mX4_lone) (xmo mX4_lone) 72 eX4_lone_72 = true := by decide +kernel
def eX4_lone_44 : List xI := [(.aload_n 0, 1, 0, 0, 0), (.iload_n 3, 1, 0, 0, 0)]
theorem kX4_lone_44 : xcode (xmb mX4_lone) (xmo mX4_lone) 44 eX4_lone_44 = true := by decide +kernel
def eX4_lone_52 : List xI := [(.iconst 1, 1, 0, 0, (1))]
theorem kX4_lone_52 : xcode (xmb mX4_lone) (xmo mX4_lone) 52 eX4_lone_52 = true := by decide +kernel
def eX4_lone_24 : List xI := [(.iload_n 1, 1, 0, 0, 0), (.iload_n 3, 1, 0, 0, 0), (.ishr, 1, 0, 0, 0), (.iconst 1, 1, 0, 0, (1)), (.iand, 1, 0, 0, 0)]
theorem kX4_lone_24 : xcode (xmb mX4_lone) (xmo mX4_lone) 24 eX4_lone_24 = true := by decide +kernel
def eX4_lone_32 : List xI := [(.iconst 1, 1, 0, 0, (1))]
theorem kX4_lone_32 : xcode (xmb mX4_lone) (xmo mX4_lone) 32 eX4_lone_32 = true := by decide +kernel
def wX4_lone_99 (Q : Int32 → xM → Prop) (k12 : xM → Int32 → Int32 → Int32 → Prop) (M : xM) (a1 : Int32) (a3 : Int32) (s0 : Int32) : Prop :=
    k12 M a1 s0 (a3 + (-1 : Int32))
set_option maxHeartbeats 4000000 in
set_option maxRecDepth 100000 in
theorem tX4_lone_99 {l : Launch} {E : xE} {Q : Int32 → xM → Prop} {k12 : xM → Int32 → Int32 → Int32 → Prop} (hk12 : ∀ (M : xM) (a1 : Int32) (a2 : Int32) (a3 : Int32), k12 M a1 a2 a3 → Gx l E mX4_lone (xRi Q) 12 M [some (.ref 50), some (.int a1), some (.int a2), some (.int a3), none, none, none] []) (M : xM) (a1 : Int32) (a3 : Int32) (s0 : Int32) (h : wX4_lone_99  Q k12 M a1 a3 s0) : Gx l E mX4_lone (xRi Q) 99 M [some (.ref 50), some (.int a1), none, some (.int a3), none, none, none] [.int s0] := by
  unfold wX4_lone_99 at h
  refine Gx_run (es := eX4_lone_99) (P := []) (M' := M) (L' := [some (.ref 50), some (.int a1), some (.int s0), some (.int (a3 + (-1 : Int32))), none, none, none]) (st' := []) (pc' := 103) kX4_lone_99 rfl trivial rfl ?_
  refine Gx_goto (off := -91) (tgt := 12) (by decide +kernel) (by decide) ?_
  refine Gx_mask [true, true, true, true, false, false, false] (L' := [some (.ref 50), some (.int a1), some (.int s0), some (.int (a3 + (-1 : Int32))), none, none, none]) rfl ?_
  exact hk12 M a1 s0 (a3 + (-1 : Int32)) h
def wX4_lone_98 (Q : Int32 → xM → Prop) (k12 : xM → Int32 → Int32 → Int32 → Prop) (M : xM) (a1 : Int32) (a2 : Int32) (a3 : Int32) : Prop :=
    wX4_lone_99  Q k12 M a1 a3 a2
set_option maxHeartbeats 4000000 in
set_option maxRecDepth 100000 in
theorem tX4_lone_98 {l : Launch} {E : xE} {Q : Int32 → xM → Prop} {k12 : xM → Int32 → Int32 → Int32 → Prop} (hk12 : ∀ (M : xM) (a1 : Int32) (a2 : Int32) (a3 : Int32), k12 M a1 a2 a3 → Gx l E mX4_lone (xRi Q) 12 M [some (.ref 50), some (.int a1), some (.int a2), some (.int a3), none, none, none] []) (M : xM) (a1 : Int32) (a2 : Int32) (a3 : Int32) (h : wX4_lone_98  Q k12 M a1 a2 a3) : Gx l E mX4_lone (xRi Q) 98 M [some (.ref 50), some (.int a1), some (.int a2), some (.int a3), none, none, none] [] := by
  unfold wX4_lone_98 at h
  refine Gx_run (es := eX4_lone_98) (P := []) (M' := M) (L' := [some (.ref 50), some (.int a1), some (.int a2), some (.int a3), none, none, none]) (st' := [.int a2]) (pc' := 99) kX4_lone_98 rfl trivial rfl ?_
  refine Gx_mask [true, true, false, true, false, false, false] (L' := [some (.ref 50), some (.int a1), none, some (.int a3), none, none, none]) rfl ?_
  exact tX4_lone_99  hk12 M a1 a3 a2 h
def wX4_lone_94 (Q : Int32 → xM → Prop) (k12 : xM → Int32 → Int32 → Int32 → Prop) (M : xM) (a1 : Int32) (a3 : Int32) : Prop :=
    wX4_lone_99  Q k12 M a1 a3 a3
set_option maxHeartbeats 4000000 in
set_option maxRecDepth 100000 in
theorem tX4_lone_94 {l : Launch} {E : xE} {Q : Int32 → xM → Prop} {k12 : xM → Int32 → Int32 → Int32 → Prop} (hk12 : ∀ (M : xM) (a1 : Int32) (a2 : Int32) (a3 : Int32), k12 M a1 a2 a3 → Gx l E mX4_lone (xRi Q) 12 M [some (.ref 50), some (.int a1), some (.int a2), some (.int a3), none, none, none] []) (M : xM) (a1 : Int32) (a3 : Int32) (h : wX4_lone_94  Q k12 M a1 a3) : Gx l E mX4_lone (xRi Q) 94 M [some (.ref 50), some (.int a1), none, some (.int a3), none, none, none] [] := by
  unfold wX4_lone_94 at h
  refine Gx_run (es := eX4_lone_94) (P := []) (M' := M) (L' := [some (.ref 50), some (.int a1), none, some (.int a3), none, none, none]) (st' := [.int a3]) (pc' := 95) kX4_lone_94 rfl trivial rfl ?_
  refine Gx_goto (off := 4) (tgt := 99) (by decide +kernel) (by decide) ?_
  refine Gx_mask [true, true, false, true, false, false, false] (L' := [some (.ref 50), some (.int a1), none, some (.int a3), none, none, none]) rfl ?_
  exact tX4_lone_99  hk12 M a1 a3 a3 h
def wX4_lone_77 (Q : Int32 → xM → Prop) (k12 : xM → Int32 → Int32 → Int32 → Prop) (M : xM) (a1 : Int32) (a2 : Int32) (a3 : Int32) (a4 : Int32) (a5 : Int32) (s0 : Int32) : Prop :=
    (((a4 = 0) → (wX4_lone_98  Q k12 M a1 a2 a3)) ∧ ((¬ a4 = 0) → ((((¬ a5 = 0) → (wX4_lone_94  Q k12 M a1 a3)) ∧ ((a5 = 0) → ((((¬ s0 = 0) → (wX4_lone_98  Q k12 M a1 a2 a3)) ∧ ((s0 = 0) → (wX4_lone_94  Q k12 M a1 a3)))))))))
set_option maxHeartbeats 4000000 in
set_option maxRecDepth 100000 in
theorem tX4_lone_77 {l : Launch} {E : xE} {Q : Int32 → xM → Prop} {k12 : xM → Int32 → Int32 → Int32 → Prop} (hk12 : ∀ (M : xM) (a1 : Int32) (a2 : Int32) (a3 : Int32), k12 M a1 a2 a3 → Gx l E mX4_lone (xRi Q) 12 M [some (.ref 50), some (.int a1), some (.int a2), some (.int a3), none, none, none] []) (M : xM) (a1 : Int32) (a2 : Int32) (a3 : Int32) (a4 : Int32) (a5 : Int32) (s0 : Int32) (h : wX4_lone_77  Q k12 M a1 a2 a3 a4 a5 s0) : Gx l E mX4_lone (xRi Q) 77 M [some (.ref 50), some (.int a1), some (.int a2), some (.int a3), some (.int a4), some (.int a5), none] [.int s0] := by
  unfold wX4_lone_77 at h
  refine Gx_run (es := eX4_lone_77) (P := []) (M' := M) (L' := [some (.ref 50), some (.int a1), some (.int a2), some (.int a3), some (.int a4), some (.int a5), some (.int s0)]) (st' := [.int a4]) (pc' := 81) kX4_lone_77 rfl trivial rfl ?_
  refine Gx_if_eq (off := 17) (tgt := 98) (by decide +kernel) (by decide) (fun z => ?_) (fun z => ?_)
  · have h := h.1 z
    refine Gx_mask [true, true, true, true, false, false, false] (L' := [some (.ref 50), some (.int a1), some (.int a2), some (.int a3), none, none, none]) rfl ?_
    exact tX4_lone_98  hk12 M a1 a2 a3 h
  · have h := h.2 z
    refine Gx_run (es := eX4_lone_84) (P := []) (M' := M) (L' := [some (.ref 50), some (.int a1), some (.int a2), some (.int a3), some (.int a4), some (.int a5), some (.int s0)]) (st' := [.int a5]) (pc' := 86) kX4_lone_84 rfl trivial rfl ?_
    refine Gx_if_ne (off := 8) (tgt := 94) (by decide +kernel) (by decide) (fun z => ?_) (fun z => ?_)
    · have h := h.1 z
      refine Gx_mask [true, true, false, true, false, false, false] (L' := [some (.ref 50), some (.int a1), none, some (.int a3), none, none, none]) rfl ?_
      exact tX4_lone_94  hk12 M a1 a3 h
    · have h := h.2 z
      refine Gx_run (es := eX4_lone_89) (P := []) (M' := M) (L' := [some (.ref 50), some (.int a1), some (.int a2), some (.int a3), some (.int a4), some (.int a5), some (.int s0)]) (st' := [.int s0]) (pc' := 91) kX4_lone_89 rfl trivial rfl ?_
      refine Gx_if_ne (off := 7) (tgt := 98) (by decide +kernel) (by decide) (fun z => ?_) (fun z => ?_)
      · have h := h.1 z
        refine Gx_mask [true, true, true, true, false, false, false] (L' := [some (.ref 50), some (.int a1), some (.int a2), some (.int a3), none, none, none]) rfl ?_
        exact tX4_lone_98  hk12 M a1 a2 a3 h
      · have h := h.2 z
        refine Gx_mask [true, true, false, true, false, false, false] (L' := [some (.ref 50), some (.int a1), none, some (.int a3), none, none, none]) rfl ?_
        exact tX4_lone_94  hk12 M a1 a3 h
def wX4_lone_76 (Q : Int32 → xM → Prop) (k12 : xM → Int32 → Int32 → Int32 → Prop) (M : xM) (a1 : Int32) (a2 : Int32) (a3 : Int32) (a4 : Int32) (a5 : Int32) : Prop :=
    wX4_lone_77  Q k12 M a1 a2 a3 a4 a5 (0 : Int32)
set_option maxHeartbeats 4000000 in
set_option maxRecDepth 100000 in
theorem tX4_lone_76 {l : Launch} {E : xE} {Q : Int32 → xM → Prop} {k12 : xM → Int32 → Int32 → Int32 → Prop} (hk12 : ∀ (M : xM) (a1 : Int32) (a2 : Int32) (a3 : Int32), k12 M a1 a2 a3 → Gx l E mX4_lone (xRi Q) 12 M [some (.ref 50), some (.int a1), some (.int a2), some (.int a3), none, none, none] []) (M : xM) (a1 : Int32) (a2 : Int32) (a3 : Int32) (a4 : Int32) (a5 : Int32) (h : wX4_lone_76  Q k12 M a1 a2 a3 a4 a5) : Gx l E mX4_lone (xRi Q) 76 M [some (.ref 50), some (.int a1), some (.int a2), some (.int a3), some (.int a4), some (.int a5), none] [] := by
  unfold wX4_lone_76 at h
  refine Gx_run (es := eX4_lone_76) (P := []) (M' := M) (L' := [some (.ref 50), some (.int a1), some (.int a2), some (.int a3), some (.int a4), some (.int a5), none]) (st' := [.int (0 : Int32)]) (pc' := 77) kX4_lone_76 rfl trivial rfl ?_
  refine Gx_mask [true, true, true, true, true, true, false] (L' := [some (.ref 50), some (.int a1), some (.int a2), some (.int a3), some (.int a4), some (.int a5), none]) rfl ?_
  exact tX4_lone_77  hk12 M a1 a2 a3 a4 a5 (0 : Int32) h
def wX4_lone_57 (Q : Int32 → xM → Prop) (k12 : xM → Int32 → Int32 → Int32 → Prop) (M : xM) (a1 : Int32) (a2 : Int32) (a3 : Int32) (a4 : Int32) (s0 : Int32) : Prop :=
    (((a2 = (-1 : Int32)) → (wX4_lone_76  Q k12 M a1 a2 a3 a4 s0)) ∧ ((¬ a2 = (-1 : Int32)) → (wX4_entriesTo M a2 (fun r66 M66 => (((¬ r66 = 0) → (wX4_lone_76  Q k12 M66 a1 a2 a3 a4 s0)) ∧ ((r66 = 0) → (wX4_lone_77  Q k12 M66 a1 a2 a3 a4 s0 (1 : Int32))))))))
set_option maxHeartbeats 4000000 in
set_option maxRecDepth 100000 in
theorem tX4_lone_57 {l : Launch} {E : xE} {Q : Int32 → xM → Prop} {k12 : xM → Int32 → Int32 → Int32 → Prop} (hk12 : ∀ (M : xM) (a1 : Int32) (a2 : Int32) (a3 : Int32), k12 M a1 a2 a3 → Gx l E mX4_lone (xRi Q) 12 M [some (.ref 50), some (.int a1), some (.int a2), some (.int a3), none, none, none] []) (M : xM) (a1 : Int32) (a2 : Int32) (a3 : Int32) (a4 : Int32) (s0 : Int32) (h : wX4_lone_57  Q k12 M a1 a2 a3 a4 s0) : Gx l E mX4_lone (xRi Q) 57 M [some (.ref 50), some (.int a1), some (.int a2), some (.int a3), some (.int a4), none, none] [.int s0] := by
  unfold wX4_lone_57 at h
  refine Gx_run (es := eX4_lone_57) (P := []) (M' := M) (L' := [some (.ref 50), some (.int a1), some (.int a2), some (.int a3), some (.int a4), some (.int s0), none]) (st' := [.int (-1 : Int32), .int a2]) (pc' := 61) kX4_lone_57 rfl trivial rfl ?_
  refine Gx_icmp_eq (off := 15) (tgt := 76) (by decide +kernel) (by decide) (fun z => ?_) (fun z => ?_)
  · have h := h.1 z
    refine Gx_mask [true, true, true, true, true, true, false] (L' := [some (.ref 50), some (.int a1), some (.int a2), some (.int a3), some (.int a4), some (.int s0), none]) rfl ?_
    exact tX4_lone_76  hk12 M a1 a2 a3 a4 s0 h
  · have h := h.2 z
    refine Gx_run (es := eX4_lone_64) (P := []) (M' := M) (L' := [some (.ref 50), some (.int a1), some (.int a2), some (.int a3), some (.int a4), some (.int s0), none]) (st' := [.int a2, .ref 50]) (pc' := 66) kX4_lone_64 rfl trivial rfl ?_
    refine Gx_callV (As := [.int a2]) (by decide +kernel) ml_4_169 okX4_entriesTo mvX4_entriesTo rfl (by decide) (Nat.le_of_ble_eq_true rfl) rfl rfl rfl (tX4_entriesTo h) (fun rr M66 qq => ?_)
    obtain ⟨r66, rfl, h⟩ := qq
    show Gx l E mX4_lone _ 69 M66 [some (.ref 50), some (.int a1), some (.int a2), some (.int a3), some (.int a4), some (.int s0), none] [.int r66]
    refine Gx_if_ne (off := 7) (tgt := 76) (by decide +kernel) (by decide) (fun z => ?_) (fun z => ?_)
    · have h := h.1 z
      refine Gx_mask [true, true, true, true, true, true, false] (L' := [some (.ref 50), some (.int a1), some (.int a2), some (.int a3), some (.int a4), some (.int s0), none]) rfl ?_
      exact tX4_lone_76  hk12 M66 a1 a2 a3 a4 s0 h
    · have h := h.2 z
      refine Gx_run (es := eX4_lone_72) (P := []) (M' := M66) (L' := [some (.ref 50), some (.int a1), some (.int a2), some (.int a3), some (.int a4), some (.int s0), none]) (st' := [.int (1 : Int32)]) (pc' := 73) kX4_lone_72 rfl trivial rfl ?_
      refine Gx_goto (off := 4) (tgt := 77) (by decide +kernel) (by decide) ?_
      refine Gx_mask [true, true, true, true, true, true, false] (L' := [some (.ref 50), some (.int a1), some (.int a2), some (.int a3), some (.int a4), some (.int s0), none]) rfl ?_
      exact tX4_lone_77  hk12 M66 a1 a2 a3 a4 s0 (1 : Int32) h
def wX4_lone_56 (Q : Int32 → xM → Prop) (k12 : xM → Int32 → Int32 → Int32 → Prop) (M : xM) (a1 : Int32) (a2 : Int32) (a3 : Int32) (a4 : Int32) : Prop :=
    wX4_lone_57  Q k12 M a1 a2 a3 a4 (0 : Int32)
set_option maxHeartbeats 4000000 in
set_option maxRecDepth 100000 in
theorem tX4_lone_56 {l : Launch} {E : xE} {Q : Int32 → xM → Prop} {k12 : xM → Int32 → Int32 → Int32 → Prop} (hk12 : ∀ (M : xM) (a1 : Int32) (a2 : Int32) (a3 : Int32), k12 M a1 a2 a3 → Gx l E mX4_lone (xRi Q) 12 M [some (.ref 50), some (.int a1), some (.int a2), some (.int a3), none, none, none] []) (M : xM) (a1 : Int32) (a2 : Int32) (a3 : Int32) (a4 : Int32) (h : wX4_lone_56  Q k12 M a1 a2 a3 a4) : Gx l E mX4_lone (xRi Q) 56 M [some (.ref 50), some (.int a1), some (.int a2), some (.int a3), some (.int a4), none, none] [] := by
  unfold wX4_lone_56 at h
  refine Gx_run (es := eX4_lone_56) (P := []) (M' := M) (L' := [some (.ref 50), some (.int a1), some (.int a2), some (.int a3), some (.int a4), none, none]) (st' := [.int (0 : Int32)]) (pc' := 57) kX4_lone_56 rfl trivial rfl ?_
  refine Gx_mask [true, true, true, true, true, false, false] (L' := [some (.ref 50), some (.int a1), some (.int a2), some (.int a3), some (.int a4), none, none]) rfl ?_
  exact tX4_lone_57  hk12 M a1 a2 a3 a4 (0 : Int32) h
def wX4_lone_37 (Q : Int32 → xM → Prop) (k12 : xM → Int32 → Int32 → Int32 → Prop) (M : xM) (a1 : Int32) (a2 : Int32) (a3 : Int32) (s0 : Int32) : Prop :=
    (((s0 = 0) → (wX4_lone_56  Q k12 M a1 a2 a3 s0)) ∧ ((¬ s0 = 0) → (wX4_entriesTo M a3 (fun r46 M46 => (((¬ r46 = 0) → (wX4_lone_56  Q k12 M46 a1 a2 a3 s0)) ∧ ((r46 = 0) → (wX4_lone_57  Q k12 M46 a1 a2 a3 s0 (1 : Int32))))))))
set_option maxHeartbeats 4000000 in
set_option maxRecDepth 100000 in
theorem tX4_lone_37 {l : Launch} {E : xE} {Q : Int32 → xM → Prop} {k12 : xM → Int32 → Int32 → Int32 → Prop} (hk12 : ∀ (M : xM) (a1 : Int32) (a2 : Int32) (a3 : Int32), k12 M a1 a2 a3 → Gx l E mX4_lone (xRi Q) 12 M [some (.ref 50), some (.int a1), some (.int a2), some (.int a3), none, none, none] []) (M : xM) (a1 : Int32) (a2 : Int32) (a3 : Int32) (s0 : Int32) (h : wX4_lone_37  Q k12 M a1 a2 a3 s0) : Gx l E mX4_lone (xRi Q) 37 M [some (.ref 50), some (.int a1), some (.int a2), some (.int a3), none, none, none] [.int s0] := by
  unfold wX4_lone_37 at h
  refine Gx_run (es := eX4_lone_37) (P := []) (M' := M) (L' := [some (.ref 50), some (.int a1), some (.int a2), some (.int a3), some (.int s0), none, none]) (st' := [.int s0]) (pc' := 41) kX4_lone_37 rfl trivial rfl ?_
  refine Gx_if_eq (off := 15) (tgt := 56) (by decide +kernel) (by decide) (fun z => ?_) (fun z => ?_)
  · have h := h.1 z
    refine Gx_mask [true, true, true, true, true, false, false] (L' := [some (.ref 50), some (.int a1), some (.int a2), some (.int a3), some (.int s0), none, none]) rfl ?_
    exact tX4_lone_56  hk12 M a1 a2 a3 s0 h
  · have h := h.2 z
    refine Gx_run (es := eX4_lone_44) (P := []) (M' := M) (L' := [some (.ref 50), some (.int a1), some (.int a2), some (.int a3), some (.int s0), none, none]) (st' := [.int a3, .ref 50]) (pc' := 46) kX4_lone_44 rfl trivial rfl ?_
    refine Gx_callV (As := [.int a3]) (by decide +kernel) ml_4_169 okX4_entriesTo mvX4_entriesTo rfl (by decide) (Nat.le_of_ble_eq_true rfl) rfl rfl rfl (tX4_entriesTo h) (fun rr M46 qq => ?_)
    obtain ⟨r46, rfl, h⟩ := qq
    show Gx l E mX4_lone _ 49 M46 [some (.ref 50), some (.int a1), some (.int a2), some (.int a3), some (.int s0), none, none] [.int r46]
    refine Gx_if_ne (off := 7) (tgt := 56) (by decide +kernel) (by decide) (fun z => ?_) (fun z => ?_)
    · have h := h.1 z
      refine Gx_mask [true, true, true, true, true, false, false] (L' := [some (.ref 50), some (.int a1), some (.int a2), some (.int a3), some (.int s0), none, none]) rfl ?_
      exact tX4_lone_56  hk12 M46 a1 a2 a3 s0 h
    · have h := h.2 z
      refine Gx_run (es := eX4_lone_52) (P := []) (M' := M46) (L' := [some (.ref 50), some (.int a1), some (.int a2), some (.int a3), some (.int s0), none, none]) (st' := [.int (1 : Int32)]) (pc' := 53) kX4_lone_52 rfl trivial rfl ?_
      refine Gx_goto (off := 4) (tgt := 57) (by decide +kernel) (by decide) ?_
      refine Gx_mask [true, true, true, true, true, false, false] (L' := [some (.ref 50), some (.int a1), some (.int a2), some (.int a3), some (.int s0), none, none]) rfl ?_
      exact tX4_lone_57  hk12 M46 a1 a2 a3 s0 (1 : Int32) h
def wX4_lone_36 (Q : Int32 → xM → Prop) (k12 : xM → Int32 → Int32 → Int32 → Prop) (M : xM) (a1 : Int32) (a2 : Int32) (a3 : Int32) : Prop :=
    wX4_lone_37  Q k12 M a1 a2 a3 (0 : Int32)
set_option maxHeartbeats 4000000 in
set_option maxRecDepth 100000 in
theorem tX4_lone_36 {l : Launch} {E : xE} {Q : Int32 → xM → Prop} {k12 : xM → Int32 → Int32 → Int32 → Prop} (hk12 : ∀ (M : xM) (a1 : Int32) (a2 : Int32) (a3 : Int32), k12 M a1 a2 a3 → Gx l E mX4_lone (xRi Q) 12 M [some (.ref 50), some (.int a1), some (.int a2), some (.int a3), none, none, none] []) (M : xM) (a1 : Int32) (a2 : Int32) (a3 : Int32) (h : wX4_lone_36  Q k12 M a1 a2 a3) : Gx l E mX4_lone (xRi Q) 36 M [some (.ref 50), some (.int a1), some (.int a2), some (.int a3), none, none, none] [] := by
  unfold wX4_lone_36 at h
  refine Gx_run (es := eX4_lone_36) (P := []) (M' := M) (L' := [some (.ref 50), some (.int a1), some (.int a2), some (.int a3), none, none, none]) (st' := [.int (0 : Int32)]) (pc' := 37) kX4_lone_36 rfl trivial rfl ?_
  refine Gx_mask [true, true, true, true, false, false, false] (L' := [some (.ref 50), some (.int a1), some (.int a2), some (.int a3), none, none, none]) rfl ?_
  exact tX4_lone_37  hk12 M a1 a2 a3 (0 : Int32) h
def lX4_lone_12 (Q : Int32 → xM → Prop) : Nat → xM → Int32 → Int32 → Int32 → Prop
  | 0 => fun _ _ _ _ => False
  | n + 1 => let k12 := lX4_lone_12  Q n; fun M a1 a2 a3 =>
    (((a3 < 0) → (Q a2 M)) ∧ ((¬ a3 < 0) → (wX4_isDirectory M a3 (fun r18 M18 => (((r18 = 0) → (wX4_lone_36  Q k12 M18 a1 a2 a3)) ∧ ((¬ r18 = 0) → ((((¬ ((a1 >>> (a3 &&& 31)) &&& (1 : Int32)) = 0) → (wX4_lone_36  Q k12 M18 a1 a2 a3)) ∧ ((((a1 >>> (a3 &&& 31)) &&& (1 : Int32)) = 0) → (wX4_lone_37  Q k12 M18 a1 a2 a3 (1 : Int32)))))))))))
set_option maxHeartbeats 4000000 in
set_option maxRecDepth 100000 in
theorem tX4_lone_12 {l : Launch} {E : xE} {Q : Int32 → xM → Prop} (n : Nat) : ∀ (M : xM) (a1 : Int32) (a2 : Int32) (a3 : Int32), lX4_lone_12  Q n M a1 a2 a3 → Gx l E mX4_lone (xRi Q) 12 M [some (.ref 50), some (.int a1), some (.int a2), some (.int a3), none, none, none] [] := by
  induction n with
  | zero => intro M a1 a2 a3 h; exact h.elim
  | succ n hk12 =>
      intro M a1 a2 a3 h
      unfold lX4_lone_12 at h
      dsimp only at h
      refine Gx_run (es := eX4_lone_12) (P := []) (M' := M) (L' := [some (.ref 50), some (.int a1), some (.int a2), some (.int a3), none, none, none]) (st' := [.int a3]) (pc' := 13) kX4_lone_12 rfl trivial rfl ?_
      refine Gx_if_lt (off := 93) (tgt := 106) (by decide +kernel) (by decide) (fun z => ?_) (fun z => ?_)
      · have h := h.1 z
        refine Gx_run (es := eX4_lone_106) (P := []) (M' := M) (L' := [some (.ref 50), some (.int a1), some (.int a2), some (.int a3), none, none, none]) (st' := [.int a2]) (pc' := 107) kX4_lone_106 rfl trivial rfl ?_
        exact Gx_iret (by decide +kernel) rfl rfl ⟨_, rfl, h⟩
      · have h := h.2 z
        refine Gx_run (es := eX4_lone_16) (P := []) (M' := M) (L' := [some (.ref 50), some (.int a1), some (.int a2), some (.int a3), none, none, none]) (st' := [.int a3, .ref 50]) (pc' := 18) kX4_lone_16 rfl trivial rfl ?_
        refine Gx_callV (As := [.int a3]) (by decide +kernel) ml_4_152 okX4_isDirectory mvX4_isDirectory rfl (by decide) (Nat.le_of_ble_eq_true rfl) rfl rfl rfl (tX4_isDirectory h) (fun rr M18 qq => ?_)
        obtain ⟨r18, rfl, h⟩ := qq
        show Gx l E mX4_lone _ 21 M18 [some (.ref 50), some (.int a1), some (.int a2), some (.int a3), none, none, none] [.int r18]
        refine Gx_if_eq (off := 15) (tgt := 36) (by decide +kernel) (by decide) (fun z => ?_) (fun z => ?_)
        · have h := h.1 z
          refine Gx_mask [true, true, true, true, false, false, false] (L' := [some (.ref 50), some (.int a1), some (.int a2), some (.int a3), none, none, none]) rfl ?_
          exact tX4_lone_36  hk12 M18 a1 a2 a3 h
        · have h := h.2 z
          refine Gx_run (es := eX4_lone_24) (P := []) (M' := M18) (L' := [some (.ref 50), some (.int a1), some (.int a2), some (.int a3), none, none, none]) (st' := [.int ((a1 >>> (a3 &&& 31)) &&& (1 : Int32))]) (pc' := 29) kX4_lone_24 rfl trivial rfl ?_
          refine Gx_if_ne (off := 7) (tgt := 36) (by decide +kernel) (by decide) (fun z => ?_) (fun z => ?_)
          · have h := h.1 z
            refine Gx_mask [true, true, true, true, false, false, false] (L' := [some (.ref 50), some (.int a1), some (.int a2), some (.int a3), none, none, none]) rfl ?_
            exact tX4_lone_36  hk12 M18 a1 a2 a3 h
          · have h := h.2 z
            refine Gx_run (es := eX4_lone_32) (P := []) (M' := M18) (L' := [some (.ref 50), some (.int a1), some (.int a2), some (.int a3), none, none, none]) (st' := [.int (1 : Int32)]) (pc' := 33) kX4_lone_32 rfl trivial rfl ?_
            refine Gx_goto (off := 4) (tgt := 37) (by decide +kernel) (by decide) ?_
            refine Gx_mask [true, true, true, true, false, false, false] (L' := [some (.ref 50), some (.int a1), some (.int a2), some (.int a3), none, none, none]) rfl ?_
            exact tX4_lone_37  hk12 M18 a1 a2 a3 (1 : Int32) h
def wX4_lone (M : xM) (Q : Int32 → xM → Prop) : Prop :=
    wX4_reached M (0 : Int32) (1 : Int32) (fun r3 M3 => (∃ n : Nat, lX4_lone_12  Q n M3 r3 (-1 : Int32) (9 : Int32)))
set_option maxHeartbeats 4000000 in
set_option maxRecDepth 100000 in
theorem tX4_lone {l : Launch} {E : xE} {M : xM} {Q : Int32 → xM → Prop} (h : wX4_lone M  Q) : Ct l E mX4_lone [.ref 50] M (xRi Q) := by
  refine Ct_of (by decide +kernel) rfl (Nat.le_of_ble_eq_true rfl) ?_
  unfold wX4_lone at h
  show Gx l E mX4_lone (xRi Q) 0 M [some (.ref 50), none, none, none, none, none, none] []
  refine Gx_run (es := eX4_lone_0) (P := []) (M' := M) (L' := [some (.ref 50), none, none, none, none, none, none]) (st' := [.int (1 : Int32), .int (0 : Int32), .ref 50]) (pc' := 3) kX4_lone_0 rfl trivial rfl ?_
  refine Gx_callV (As := [.int (0 : Int32), .int (1 : Int32)]) (by decide +kernel) ml_4_165 okX4_reached mvX4_reached rfl (by decide) (Nat.le_of_ble_eq_true rfl) rfl rfl rfl (tX4_reached h) (fun rr M3 qq => ?_)
  obtain ⟨r3, rfl, h⟩ := qq
  show Gx l E mX4_lone _ 6 M3 [some (.ref 50), none, none, none, none, none, none] [.int r3]
  refine Gx_run (es := eX4_lone_6) (P := []) (M' := M3) (L' := [some (.ref 50), some (.int r3), some (.int (-1 : Int32)), some (.int (9 : Int32)), none, none, none]) (st' := []) (pc' := 12) kX4_lone_6 rfl trivial rfl ?_
  refine Gx_mask [true, true, true, true, false, false, false] (L' := [some (.ref 50), some (.int r3), some (.int (-1 : Int32)), some (.int (9 : Int32)), none, none, none]) rfl ?_
  obtain ⟨n, h⟩ := h
  exact tX4_lone_12  n M3 r3 (-1 : Int32) (9 : Int32) h
def eX4_looksAtPointer_0 : List xI := [(.iconst 3, 1, 0, 0, (3)), (.iload_n 1, 1, 0, 0, 0), (.imul, 1, 0, 0, 0), (.iload_n 2, 1, 0, 0, 0), (.iadd, 1, 0, 0, 0), (.istore_n 3, 1, 0, 0, 0), (.aload_n 0, 1, 0, 0, 0), (.getfield 7, 3, 4, 1, 0), (.bipush 30, 2, 0, 0, (30)), (.iload_n 3, 1, 0, 0, 0), (.iadd, 1, 0, 0, 0), (.iaload, 1, 0, 0, 0), (.istore 4, 2, 0, 0, 0), (.iload 4, 2, 0, 0, 0), (.bipush 99, 2, 0, 0, (99))]
theorem kX4_looksAtPointer_0 : xcode (xmb mX4_looksAtPointer) (xmo mX4_looksAtPointer) 0 eX4_looksAtPointer_0 = true := by decide +kernel
def eX4_looksAtPointer_25 : List xI := [(.iload_n 2, 1, 0, 0, 0), (.aload_n 0, 1, 0, 0, 0), (.getfield 7, 3, 4, 1, 0), (.iconst 0, 1, 0, 0, (0)), (.iload_n 1, 1, 0, 0, 0), (.iadd, 1, 0, 0, 0), (.iaload, 1, 0, 0, 0)]
theorem kX4_looksAtPointer_25 : xcode (xmb mX4_looksAtPointer) (xmo mX4_looksAtPointer) 25 eX4_looksAtPointer_25 = true := by decide +kernel
def eX4_looksAtPointer_61 : List xI := [(.iload 4, 2, 0, 0, 0), (.bipush 24, 2, 0, 0, (24))]
theorem kX4_looksAtPointer_61 : xcode (xmb mX4_looksAtPointer) (xmo mX4_looksAtPointer) 61 eX4_looksAtPointer_61 = true := by decide +kernel
def eX4_looksAtPointer_89 : List xI := [(.aload_n 0, 1, 0, 0, 0), (.iconst 4, 1, 0, 0, (4))]
theorem kX4_looksAtPointer_89 : xcode (xmb mX4_looksAtPointer) (xmo mX4_looksAtPointer) 89 eX4_looksAtPointer_89 = true := by decide +kernel
def eX4_looksAtPointer_97 : List xI := [(.aload_n 0, 1, 0, 0, 0), (.iload_n 3, 1, 0, 0, 0)]
theorem kX4_looksAtPointer_97 : xcode (xmb mX4_looksAtPointer) (xmo mX4_looksAtPointer) 97 eX4_looksAtPointer_97 = true := by decide +kernel
def eX4_looksAtPointer_105 : List xI := [(.aload_n 0, 1, 0, 0, 0), (.iconst 4, 1, 0, 0, (4)), (.iload_n 1, 1, 0, 0, 0), (.iload_n 2, 1, 0, 0, 0)]
theorem kX4_looksAtPointer_105 : xcode (xmb mX4_looksAtPointer) (xmo mX4_looksAtPointer) 105 eX4_looksAtPointer_105 = true := by decide +kernel
def eX4_looksAtPointer_112 : List xI := [(.aload_n 0, 1, 0, 0, 0)]
theorem kX4_looksAtPointer_112 : xcode (xmb mX4_looksAtPointer) (xmo mX4_looksAtPointer) 112 eX4_looksAtPointer_112 = true := by decide +kernel
def eX4_looksAtPointer_116 : List xI := [(.istore 5, 2, 0, 0, 0), (.aload_n 0, 1, 0, 0, 0), (.getfield 7, 3, 4, 1, 0), (.iconst 0, 1, 0, 0, (0)), (.iload_n 1, 1, 0, 0, 0), (.iadd, 1, 0, 0, 0), (.iaload, 1, 0, 0, 0), (.iconst 4, 1, 0, 0, (4))]
theorem kX4_looksAtPointer_116 : xcode (xmb mX4_looksAtPointer) (xmo mX4_looksAtPointer) 116 eX4_looksAtPointer_116 = true := by decide +kernel
def eX4_looksAtPointer_171 : List xI := [(.aload_n 0, 1, 0, 0, 0), (.getfield 7, 3, 4, 1, 0), (.bipush 30, 2, 0, 0, (30)), (.iload_n 3, 1, 0, 0, 0), (.iadd, 1, 0, 0, 0), (.bipush 99, 2, 0, 0, (99)), (.iastore, 1, 0, 0, 0)]
theorem kX4_looksAtPointer_171 : xcode (xmb mX4_looksAtPointer) (xmo mX4_looksAtPointer) 171 eX4_looksAtPointer_171 = true := by decide +kernel
def eX4_looksAtPointer_130 : List xI := [(.iload 5, 2, 0, 0, 0), (.bipush (-9), 2, 0, 0, (-9))]
theorem kX4_looksAtPointer_130 : xcode (xmb mX4_looksAtPointer) (xmo mX4_looksAtPointer) 130 eX4_looksAtPointer_130 = true := by decide +kernel
def eX4_looksAtPointer_137 : List xI := [(.aload_n 0, 1, 0, 0, 0), (.getfield 7, 3, 4, 1, 0), (.bipush 120, 2, 0, 0, (120)), (.iload 5, 2, 0, 0, 0), (.iadd, 1, 0, 0, 0), (.aload_n 0, 1, 0, 0, 0), (.getfield 7, 3, 4, 1, 0), (.bipush 120, 2, 0, 0, (120)), (.iload 4, 2, 0, 0, 0), (.iadd, 1, 0, 0, 0), (.iaload, 1, 0, 0, 0), (.iastore, 1, 0, 0, 0), (.aload_n 0, 1, 0, 0, 0), (.getfield 7, 3, 4, 1, 0), (.bipush 30, 2, 0, 0, (30)), (.iload_n 3, 1, 0, 0, 0), (.iadd, 1, 0, 0, 0), (.iload 5, 2, 0, 0, 0), (.iastore, 1, 0, 0, 0)]
theorem kX4_looksAtPointer_137 : xcode (xmb mX4_looksAtPointer) (xmo mX4_looksAtPointer) 137 eX4_looksAtPointer_137 = true := by decide +kernel
def eX4_looksAtPointer_68 : List xI := [(.aload_n 0, 1, 0, 0, 0), (.iconst 3, 1, 0, 0, (3)), (.iload_n 1, 1, 0, 0, 0), (.iload_n 2, 1, 0, 0, 0)]
theorem kX4_looksAtPointer_68 : xcode (xmb mX4_looksAtPointer) (xmo mX4_looksAtPointer) 68 eX4_looksAtPointer_68 = true := by decide +kernel
def eX4_looksAtPointer_75 : List xI := [(.aload_n 0, 1, 0, 0, 0), (.getfield 7, 3, 4, 1, 0), (.bipush 30, 2, 0, 0, (30)), (.iload_n 3, 1, 0, 0, 0), (.iadd, 1, 0, 0, 0), (.bipush 99, 2, 0, 0, (99)), (.iastore, 1, 0, 0, 0)]
theorem kX4_looksAtPointer_75 : xcode (xmb mX4_looksAtPointer) (xmo mX4_looksAtPointer) 75 eX4_looksAtPointer_75 = true := by decide +kernel
def eX4_looksAtPointer_40 : List xI := [(.aload_n 0, 1, 0, 0, 0), (.iconst 2, 1, 0, 0, (2)), (.iload_n 1, 1, 0, 0, 0), (.iload_n 2, 1, 0, 0, 0)]
theorem kX4_looksAtPointer_40 : xcode (xmb mX4_looksAtPointer) (xmo mX4_looksAtPointer) 40 eX4_looksAtPointer_40 = true := by decide +kernel
def eX4_looksAtPointer_47 : List xI := [(.aload_n 0, 1, 0, 0, 0), (.getfield 7, 3, 4, 1, 0), (.bipush 30, 2, 0, 0, (30)), (.iload_n 3, 1, 0, 0, 0), (.iadd, 1, 0, 0, 0), (.bipush 99, 2, 0, 0, (99)), (.iastore, 1, 0, 0, 0)]
theorem kX4_looksAtPointer_47 : xcode (xmb mX4_looksAtPointer) (xmo mX4_looksAtPointer) 47 eX4_looksAtPointer_47 = true := by decide +kernel
def wX4_looksAtPointer_182 (p1 : Int32) (p2 : Int32) (Q : xM → Prop) (M : xM) : Prop :=
    Q M
set_option maxHeartbeats 4000000 in
set_option maxRecDepth 100000 in
theorem tX4_looksAtPointer_182 {l : Launch} {E : xE} {p1 : Int32} {p2 : Int32} {Q : xM → Prop} (M : xM) (h : wX4_looksAtPointer_182 p1 p2 Q M ) : Gx l E mX4_looksAtPointer (xRv Q) 182 M [none, none, none, none, none, none] [] := by
  unfold wX4_looksAtPointer_182 at h
  exact Gx_vret (by decide +kernel) rfl ⟨rfl, h⟩
def wX4_looksAtPointer_171 (p1 : Int32) (p2 : Int32) (Q : xM → Prop) (M : xM) : Prop :=
    (vp_in ((30 : Int32) + (((3 : Int32) * p1) + p2)) 147) ∧ wX4_looksAtPointer_182 p1 p2 Q (xup M 51 ((30 : Int32) + (((3 : Int32) * p1) + p2)).toNatClampNeg (99 : Int32))
set_option maxHeartbeats 4000000 in
set_option maxRecDepth 100000 in
theorem tX4_looksAtPointer_171 {l : Launch} {E : xE} {p1 : Int32} {p2 : Int32} {Q : xM → Prop} (M : xM) (h : wX4_looksAtPointer_171 p1 p2 Q M ) : Gx l E mX4_looksAtPointer (xRv Q) 171 M [some (.ref 50), none, none, some (.int (((3 : Int32) * p1) + p2)), none, none] [] := by
  unfold wX4_looksAtPointer_171 at h
  obtain ⟨g171_0, h⟩ := h
  refine Gx_run (es := eX4_looksAtPointer_171) (P := [xkd 50 = 4, xkd 51 = 5, vp_in ((30 : Int32) + (((3 : Int32) * p1) + p2)) (xln 51)]) (M' := (xup M 51 ((30 : Int32) + (((3 : Int32) * p1) + p2)).toNatClampNeg (99 : Int32))) (L' := [some (.ref 50), none, none, some (.int (((3 : Int32) * p1) + p2)), none, none]) (st' := []) (pc' := 182) kX4_looksAtPointer_171 rfl ⟨rfl, rfl, g171_0, trivial⟩ rfl ?_
  refine Gx_mask [false, false, false, false, false, false] (L' := [none, none, none, none, none, none]) rfl ?_
  exact tX4_looksAtPointer_182  (xup M 51 ((30 : Int32) + (((3 : Int32) * p1) + p2)).toNatClampNeg (99 : Int32)) h
def wX4_looksAtPointer (M : xM) (p1 : Int32) (p2 : Int32) (Q : xM → Prop) : Prop :=
    (vp_in ((30 : Int32) + (((3 : Int32) * p1) + p2)) 147) ∧ (((¬ (M 51 ((30 : Int32) + (((3 : Int32) * p1) + p2)).toNatClampNeg) = (99 : Int32)) → ((vp_in ((0 : Int32) + p1) 147) ∧ wX4_holds M (M 51 ((0 : Int32) + p1).toNatClampNeg) (fun r34 M34 => (((p2 < r34) → (((((M 51 ((30 : Int32) + (((3 : Int32) * p1) + p2)).toNatClampNeg) < (24 : Int32)) → (wX4_isRefused M34 (4 : Int32) (fun r91 M91 => (((¬ r91 = 0) → (wX4_looksAtPointer_182 p1 p2 Q M91)) ∧ ((r91 = 0) → (wX4_isSharedAhead M91 (((3 : Int32) * p1) + p2) (fun r99 M99 => (((r99 = 0) → (wX4_looksAtPointer_182 p1 p2 Q M99)) ∧ ((¬ r99 = 0) → (wX4_asks M99 (4 : Int32) p1 p2 (fun M109 => wX4_freeBlock M109 (fun r113 M113 => (vp_in ((0 : Int32) + p1) 147) ∧ ((((M113 51 ((0 : Int32) + p1).toNatClampNeg) = (4 : Int32)) → (wX4_looksAtPointer_171 p1 p2 Q M113)) ∧ ((¬ (M113 51 ((0 : Int32) + p1).toNatClampNeg) = (4 : Int32)) → ((((r113 = (-9 : Int32)) → (wX4_looksAtPointer_171 p1 p2 Q M113)) ∧ ((¬ r113 = (-9 : Int32)) → ((vp_in ((120 : Int32) + (M 51 ((30 : Int32) + (((3 : Int32) * p1) + p2)).toNatClampNeg)) 147) ∧ (vp_in ((120 : Int32) + r113) 147) ∧ (vp_in ((30 : Int32) + (((3 : Int32) * p1) + p2)) 147) ∧ wX4_looksAtPointer_182 p1 p2 Q (xup (xup M113 51 ((120 : Int32) + r113).toNatClampNeg (M113 51 ((120 : Int32) + (M 51 ((30 : Int32) + (((3 : Int32) * p1) + p2)).toNatClampNeg)).toNatClampNeg)) 51 ((30 : Int32) + (((3 : Int32) * p1) + p2)).toNatClampNeg r113))))))))))))))))))) ∧ ((¬ (M 51 ((30 : Int32) + (((3 : Int32) * p1) + p2)).toNatClampNeg) < (24 : Int32)) → (wX4_asks M34 (3 : Int32) p1 p2 (fun M72 => (vp_in ((30 : Int32) + (((3 : Int32) * p1) + p2)) 147) ∧ wX4_looksAtPointer_182 p1 p2 Q (xup M72 51 ((30 : Int32) + (((3 : Int32) * p1) + p2)).toNatClampNeg (99 : Int32)))))))) ∧ ((¬ p2 < r34) → (wX4_asks M34 (2 : Int32) p1 p2 (fun M44 => (vp_in ((30 : Int32) + (((3 : Int32) * p1) + p2)) 147) ∧ wX4_looksAtPointer_182 p1 p2 Q (xup M44 51 ((30 : Int32) + (((3 : Int32) * p1) + p2)).toNatClampNeg (99 : Int32))))))))) ∧ (((M 51 ((30 : Int32) + (((3 : Int32) * p1) + p2)).toNatClampNeg) = (99 : Int32)) → (Q M)))
set_option maxHeartbeats 4000000 in
set_option maxRecDepth 100000 in
theorem tX4_looksAtPointer {l : Launch} {E : xE} {M : xM} {p1 : Int32} {p2 : Int32} {Q : xM → Prop} (h : wX4_looksAtPointer M p1 p2 Q) : Ct l E mX4_looksAtPointer [.ref 50, .int p1, .int p2] M (xRv Q) := by
  refine Ct_of (by decide +kernel) rfl (Nat.le_of_ble_eq_true rfl) ?_
  unfold wX4_looksAtPointer at h
  show Gx l E mX4_looksAtPointer (xRv Q) 0 M [some (.ref 50), some (.int p1), some (.int p2), none, none, none] []
  obtain ⟨g0_0, h⟩ := h
  refine Gx_run (es := eX4_looksAtPointer_0) (P := [xkd 50 = 4, xkd 51 = 5, vp_in ((30 : Int32) + (((3 : Int32) * p1) + p2)) (xln 51)]) (M' := M) (L' := [some (.ref 50), some (.int p1), some (.int p2), some (.int (((3 : Int32) * p1) + p2)), some (.int (M 51 ((30 : Int32) + (((3 : Int32) * p1) + p2)).toNatClampNeg)), none]) (st' := [.int (99 : Int32), .int (M 51 ((30 : Int32) + (((3 : Int32) * p1) + p2)).toNatClampNeg)]) (pc' := 21) kX4_looksAtPointer_0 rfl ⟨rfl, rfl, g0_0, trivial⟩ rfl ?_
  refine Gx_icmp_ne (off := 4) (tgt := 25) (by decide +kernel) (by decide) (fun z => ?_) (fun z => ?_)
  · have h := h.1 z
    obtain ⟨g25_0, h⟩ := h
    refine Gx_run (es := eX4_looksAtPointer_25) (P := [xkd 50 = 4, xkd 51 = 5, vp_in ((0 : Int32) + p1) (xln 51)]) (M' := M) (L' := [some (.ref 50), some (.int p1), some (.int p2), some (.int (((3 : Int32) * p1) + p2)), some (.int (M 51 ((30 : Int32) + (((3 : Int32) * p1) + p2)).toNatClampNeg)), none]) (st' := [.int (M 51 ((0 : Int32) + p1).toNatClampNeg), .int p2]) (pc' := 34) kX4_looksAtPointer_25 rfl ⟨rfl, rfl, g25_0, trivial⟩ rfl ?_
    refine Gx_callS (As := [.int (M 51 ((0 : Int32) + p1).toNatClampNeg)]) (by decide +kernel) ml_4_115 okX4_holds mvX4_holds rfl (by decide) (Nat.le_of_ble_eq_true rfl) (tX4_holds h) (fun rr M34 qq => ?_)
    obtain ⟨r34, rfl, h⟩ := qq
    show Gx l E mX4_looksAtPointer _ 37 M34 [some (.ref 50), some (.int p1), some (.int p2), some (.int (((3 : Int32) * p1) + p2)), some (.int (M 51 ((30 : Int32) + (((3 : Int32) * p1) + p2)).toNatClampNeg)), none] [.int r34, .int p2]
    refine Gx_icmp_lt (off := 24) (tgt := 61) (by decide +kernel) (by decide) (fun z => ?_) (fun z => ?_)
    · have h := h.1 z
      refine Gx_run (es := eX4_looksAtPointer_61) (P := []) (M' := M34) (L' := [some (.ref 50), some (.int p1), some (.int p2), some (.int (((3 : Int32) * p1) + p2)), some (.int (M 51 ((30 : Int32) + (((3 : Int32) * p1) + p2)).toNatClampNeg)), none]) (st' := [.int (24 : Int32), .int (M 51 ((30 : Int32) + (((3 : Int32) * p1) + p2)).toNatClampNeg)]) (pc' := 65) kX4_looksAtPointer_61 rfl trivial rfl ?_
      refine Gx_icmp_lt (off := 24) (tgt := 89) (by decide +kernel) (by decide) (fun z => ?_) (fun z => ?_)
      · have h := h.1 z
        refine Gx_run (es := eX4_looksAtPointer_89) (P := []) (M' := M34) (L' := [some (.ref 50), some (.int p1), some (.int p2), some (.int (((3 : Int32) * p1) + p2)), some (.int (M 51 ((30 : Int32) + (((3 : Int32) * p1) + p2)).toNatClampNeg)), none]) (st' := [.int (4 : Int32), .ref 50]) (pc' := 91) kX4_looksAtPointer_89 rfl trivial rfl ?_
        refine Gx_callV (As := [.int (4 : Int32)]) (by decide +kernel) ml_4_140 okX4_isRefused mvX4_isRefused rfl (by decide) (Nat.le_of_ble_eq_true rfl) rfl rfl rfl (tX4_isRefused h) (fun rr M91 qq => ?_)
        obtain ⟨r91, rfl, h⟩ := qq
        show Gx l E mX4_looksAtPointer _ 94 M91 [some (.ref 50), some (.int p1), some (.int p2), some (.int (((3 : Int32) * p1) + p2)), some (.int (M 51 ((30 : Int32) + (((3 : Int32) * p1) + p2)).toNatClampNeg)), none] [.int r91]
        refine Gx_if_ne (off := 88) (tgt := 182) (by decide +kernel) (by decide) (fun z => ?_) (fun z => ?_)
        · have h := h.1 z
          refine Gx_mask [false, false, false, false, false, false] (L' := [none, none, none, none, none, none]) rfl ?_
          exact tX4_looksAtPointer_182  M91 h
        · have h := h.2 z
          refine Gx_run (es := eX4_looksAtPointer_97) (P := []) (M' := M91) (L' := [some (.ref 50), some (.int p1), some (.int p2), some (.int (((3 : Int32) * p1) + p2)), some (.int (M 51 ((30 : Int32) + (((3 : Int32) * p1) + p2)).toNatClampNeg)), none]) (st' := [.int (((3 : Int32) * p1) + p2), .ref 50]) (pc' := 99) kX4_looksAtPointer_97 rfl trivial rfl ?_
          refine Gx_callV (As := [.int (((3 : Int32) * p1) + p2)]) (by decide +kernel) ml_4_143 okX4_isSharedAhead mvX4_isSharedAhead rfl (by decide) (Nat.le_of_ble_eq_true rfl) rfl rfl rfl (tX4_isSharedAhead h) (fun rr M99 qq => ?_)
          obtain ⟨r99, rfl, h⟩ := qq
          show Gx l E mX4_looksAtPointer _ 102 M99 [some (.ref 50), some (.int p1), some (.int p2), some (.int (((3 : Int32) * p1) + p2)), some (.int (M 51 ((30 : Int32) + (((3 : Int32) * p1) + p2)).toNatClampNeg)), none] [.int r99]
          refine Gx_if_eq (off := 80) (tgt := 182) (by decide +kernel) (by decide) (fun z => ?_) (fun z => ?_)
          · have h := h.1 z
            refine Gx_mask [false, false, false, false, false, false] (L' := [none, none, none, none, none, none]) rfl ?_
            exact tX4_looksAtPointer_182  M99 h
          · have h := h.2 z
            refine Gx_run (es := eX4_looksAtPointer_105) (P := []) (M' := M99) (L' := [some (.ref 50), some (.int p1), some (.int p2), some (.int (((3 : Int32) * p1) + p2)), some (.int (M 51 ((30 : Int32) + (((3 : Int32) * p1) + p2)).toNatClampNeg)), none]) (st' := [.int p2, .int p1, .int (4 : Int32), .ref 50]) (pc' := 109) kX4_looksAtPointer_105 rfl trivial rfl ?_
            refine Gx_callV (As := [.int (4 : Int32), .int p1, .int p2]) (by decide +kernel) ml_4_136 okX4_asks mvX4_asks rfl (by decide) (Nat.le_of_ble_eq_true rfl) rfl rfl rfl (tX4_asks h) (fun rr M109 qq => ?_)
            obtain ⟨rfl, h⟩ := qq
            show Gx l E mX4_looksAtPointer _ 112 M109 [some (.ref 50), some (.int p1), some (.int p2), some (.int (((3 : Int32) * p1) + p2)), some (.int (M 51 ((30 : Int32) + (((3 : Int32) * p1) + p2)).toNatClampNeg)), none] []
            refine Gx_run (es := eX4_looksAtPointer_112) (P := []) (M' := M109) (L' := [some (.ref 50), some (.int p1), some (.int p2), some (.int (((3 : Int32) * p1) + p2)), some (.int (M 51 ((30 : Int32) + (((3 : Int32) * p1) + p2)).toNatClampNeg)), none]) (st' := [.ref 50]) (pc' := 113) kX4_looksAtPointer_112 rfl trivial rfl ?_
            refine Gx_callV (As := []) (by decide +kernel) ml_4_146 okX4_freeBlock mvX4_freeBlock rfl (by decide) (Nat.le_of_ble_eq_true rfl) rfl rfl rfl (tX4_freeBlock h) (fun rr M113 qq => ?_)
            obtain ⟨r113, rfl, h⟩ := qq
            show Gx l E mX4_looksAtPointer _ 116 M113 [some (.ref 50), some (.int p1), some (.int p2), some (.int (((3 : Int32) * p1) + p2)), some (.int (M 51 ((30 : Int32) + (((3 : Int32) * p1) + p2)).toNatClampNeg)), none] [.int r113]
            obtain ⟨g116_0, h⟩ := h
            refine Gx_run (es := eX4_looksAtPointer_116) (P := [xkd 50 = 4, xkd 51 = 5, vp_in ((0 : Int32) + p1) (xln 51)]) (M' := M113) (L' := [some (.ref 50), some (.int p1), some (.int p2), some (.int (((3 : Int32) * p1) + p2)), some (.int (M 51 ((30 : Int32) + (((3 : Int32) * p1) + p2)).toNatClampNeg)), some (.int r113)]) (st' := [.int (4 : Int32), .int (M113 51 ((0 : Int32) + p1).toNatClampNeg)]) (pc' := 127) kX4_looksAtPointer_116 rfl ⟨rfl, rfl, g116_0, trivial⟩ rfl ?_
            refine Gx_icmp_eq (off := 44) (tgt := 171) (by decide +kernel) (by decide) (fun z => ?_) (fun z => ?_)
            · have h := h.1 z
              refine Gx_mask [true, false, false, true, false, false] (L' := [some (.ref 50), none, none, some (.int (((3 : Int32) * p1) + p2)), none, none]) rfl ?_
              exact tX4_looksAtPointer_171  M113 h
            · have h := h.2 z
              refine Gx_run (es := eX4_looksAtPointer_130) (P := []) (M' := M113) (L' := [some (.ref 50), some (.int p1), some (.int p2), some (.int (((3 : Int32) * p1) + p2)), some (.int (M 51 ((30 : Int32) + (((3 : Int32) * p1) + p2)).toNatClampNeg)), some (.int r113)]) (st' := [.int (-9 : Int32), .int r113]) (pc' := 134) kX4_looksAtPointer_130 rfl trivial rfl ?_
              refine Gx_icmp_eq (off := 37) (tgt := 171) (by decide +kernel) (by decide) (fun z => ?_) (fun z => ?_)
              · have h := h.1 z
                refine Gx_mask [true, false, false, true, false, false] (L' := [some (.ref 50), none, none, some (.int (((3 : Int32) * p1) + p2)), none, none]) rfl ?_
                exact tX4_looksAtPointer_171  M113 h
              · have h := h.2 z
                obtain ⟨g137_0, g137_1, g137_2, h⟩ := h
                refine Gx_run (es := eX4_looksAtPointer_137) (P := [xkd 50 = 4, xkd 50 = 4, xkd 51 = 5, vp_in ((120 : Int32) + (M 51 ((30 : Int32) + (((3 : Int32) * p1) + p2)).toNatClampNeg)) (xln 51), xkd 51 = 5, vp_in ((120 : Int32) + r113) (xln 51), xkd 50 = 4, xkd 51 = 5, vp_in ((30 : Int32) + (((3 : Int32) * p1) + p2)) (xln 51)]) (M' := (xup (xup M113 51 ((120 : Int32) + r113).toNatClampNeg (M113 51 ((120 : Int32) + (M 51 ((30 : Int32) + (((3 : Int32) * p1) + p2)).toNatClampNeg)).toNatClampNeg)) 51 ((30 : Int32) + (((3 : Int32) * p1) + p2)).toNatClampNeg r113)) (L' := [some (.ref 50), some (.int p1), some (.int p2), some (.int (((3 : Int32) * p1) + p2)), some (.int (M 51 ((30 : Int32) + (((3 : Int32) * p1) + p2)).toNatClampNeg)), some (.int r113)]) (st' := []) (pc' := 168) kX4_looksAtPointer_137 rfl ⟨rfl, rfl, rfl, g137_0, rfl, g137_1, rfl, rfl, g137_2, trivial⟩ rfl ?_
                refine Gx_goto (off := 14) (tgt := 182) (by decide +kernel) (by decide) ?_
                refine Gx_mask [false, false, false, false, false, false] (L' := [none, none, none, none, none, none]) rfl ?_
                exact tX4_looksAtPointer_182  (xup (xup M113 51 ((120 : Int32) + r113).toNatClampNeg (M113 51 ((120 : Int32) + (M 51 ((30 : Int32) + (((3 : Int32) * p1) + p2)).toNatClampNeg)).toNatClampNeg)) 51 ((30 : Int32) + (((3 : Int32) * p1) + p2)).toNatClampNeg r113) h
      · have h := h.2 z
        refine Gx_run (es := eX4_looksAtPointer_68) (P := []) (M' := M34) (L' := [some (.ref 50), some (.int p1), some (.int p2), some (.int (((3 : Int32) * p1) + p2)), some (.int (M 51 ((30 : Int32) + (((3 : Int32) * p1) + p2)).toNatClampNeg)), none]) (st' := [.int p2, .int p1, .int (3 : Int32), .ref 50]) (pc' := 72) kX4_looksAtPointer_68 rfl trivial rfl ?_
        refine Gx_callV (As := [.int (3 : Int32), .int p1, .int p2]) (by decide +kernel) ml_4_136 okX4_asks mvX4_asks rfl (by decide) (Nat.le_of_ble_eq_true rfl) rfl rfl rfl (tX4_asks h) (fun rr M72 qq => ?_)
        obtain ⟨rfl, h⟩ := qq
        show Gx l E mX4_looksAtPointer _ 75 M72 [some (.ref 50), some (.int p1), some (.int p2), some (.int (((3 : Int32) * p1) + p2)), some (.int (M 51 ((30 : Int32) + (((3 : Int32) * p1) + p2)).toNatClampNeg)), none] []
        obtain ⟨g75_0, h⟩ := h
        refine Gx_run (es := eX4_looksAtPointer_75) (P := [xkd 50 = 4, xkd 51 = 5, vp_in ((30 : Int32) + (((3 : Int32) * p1) + p2)) (xln 51)]) (M' := (xup M72 51 ((30 : Int32) + (((3 : Int32) * p1) + p2)).toNatClampNeg (99 : Int32))) (L' := [some (.ref 50), some (.int p1), some (.int p2), some (.int (((3 : Int32) * p1) + p2)), some (.int (M 51 ((30 : Int32) + (((3 : Int32) * p1) + p2)).toNatClampNeg)), none]) (st' := []) (pc' := 86) kX4_looksAtPointer_75 rfl ⟨rfl, rfl, g75_0, trivial⟩ rfl ?_
        refine Gx_goto (off := 96) (tgt := 182) (by decide +kernel) (by decide) ?_
        refine Gx_mask [false, false, false, false, false, false] (L' := [none, none, none, none, none, none]) rfl ?_
        exact tX4_looksAtPointer_182  (xup M72 51 ((30 : Int32) + (((3 : Int32) * p1) + p2)).toNatClampNeg (99 : Int32)) h
    · have h := h.2 z
      refine Gx_run (es := eX4_looksAtPointer_40) (P := []) (M' := M34) (L' := [some (.ref 50), some (.int p1), some (.int p2), some (.int (((3 : Int32) * p1) + p2)), some (.int (M 51 ((30 : Int32) + (((3 : Int32) * p1) + p2)).toNatClampNeg)), none]) (st' := [.int p2, .int p1, .int (2 : Int32), .ref 50]) (pc' := 44) kX4_looksAtPointer_40 rfl trivial rfl ?_
      refine Gx_callV (As := [.int (2 : Int32), .int p1, .int p2]) (by decide +kernel) ml_4_136 okX4_asks mvX4_asks rfl (by decide) (Nat.le_of_ble_eq_true rfl) rfl rfl rfl (tX4_asks h) (fun rr M44 qq => ?_)
      obtain ⟨rfl, h⟩ := qq
      show Gx l E mX4_looksAtPointer _ 47 M44 [some (.ref 50), some (.int p1), some (.int p2), some (.int (((3 : Int32) * p1) + p2)), some (.int (M 51 ((30 : Int32) + (((3 : Int32) * p1) + p2)).toNatClampNeg)), none] []
      obtain ⟨g47_0, h⟩ := h
      refine Gx_run (es := eX4_looksAtPointer_47) (P := [xkd 50 = 4, xkd 51 = 5, vp_in ((30 : Int32) + (((3 : Int32) * p1) + p2)) (xln 51)]) (M' := (xup M44 51 ((30 : Int32) + (((3 : Int32) * p1) + p2)).toNatClampNeg (99 : Int32))) (L' := [some (.ref 50), some (.int p1), some (.int p2), some (.int (((3 : Int32) * p1) + p2)), some (.int (M 51 ((30 : Int32) + (((3 : Int32) * p1) + p2)).toNatClampNeg)), none]) (st' := []) (pc' := 58) kX4_looksAtPointer_47 rfl ⟨rfl, rfl, g47_0, trivial⟩ rfl ?_
      refine Gx_goto (off := 124) (tgt := 182) (by decide +kernel) (by decide) ?_
      refine Gx_mask [false, false, false, false, false, false] (L' := [none, none, none, none, none, none]) rfl ?_
      exact tX4_looksAtPointer_182  (xup M44 51 ((30 : Int32) + (((3 : Int32) * p1) + p2)).toNatClampNeg (99 : Int32)) h
  · have h := h.2 z
    exact Gx_vret (by decide +kernel) rfl ⟨rfl, h⟩
def eX4_looksAtSlot_0 : List xI := [(.bipush 6, 2, 0, 0, (6)), (.iload_n 1, 1, 0, 0, 0), (.imul, 1, 0, 0, 0), (.iload_n 2, 1, 0, 0, 0), (.iadd, 1, 0, 0, 0), (.istore_n 3, 1, 0, 0, 0), (.aload_n 0, 1, 0, 0, 0), (.getfield 7, 3, 4, 1, 0), (.bipush 60, 2, 0, 0, (60)), (.iload_n 3, 1, 0, 0, 0), (.iadd, 1, 0, 0, 0), (.iaload, 1, 0, 0, 0), (.iconst (-1), 1, 0, 0, (-1))]
theorem kX4_looksAtSlot_0 : xcode (xmb mX4_looksAtSlot) (xmo mX4_looksAtSlot) 0 eX4_looksAtSlot_0 = true := by decide +kernel
def eX4_looksAtSlot_21 : List xI := [(.aload_n 0, 1, 0, 0, 0), (.getfield 7, 3, 4, 1, 0), (.bipush 60, 2, 0, 0, (60)), (.iload_n 3, 1, 0, 0, 0), (.iadd, 1, 0, 0, 0), (.iaload, 1, 0, 0, 0), (.bipush 26, 2, 0, 0, (26)), (.idiv, 1, 0, 0, 0), (.istore 4, 2, 0, 0, 0), (.iload_n 2, 1, 0, 0, 0), (.aload_n 0, 1, 0, 0, 0), (.getfield 7, 3, 4, 1, 0), (.iconst 0, 1, 0, 0, (0)), (.iload_n 1, 1, 0, 0, 0), (.iadd, 1, 0, 0, 0), (.iaload, 1, 0, 0, 0)]
theorem kX4_looksAtSlot_21 : xcode (xmb mX4_looksAtSlot) (xmo mX4_looksAtSlot) 21 eX4_looksAtSlot_21 = true := by decide +kernel
def eX4_looksAtSlot_54 : List xI := [(.iload 4, 2, 0, 0, 0)]
theorem kX4_looksAtSlot_54 : xcode (xmb mX4_looksAtSlot) (xmo mX4_looksAtSlot) 54 eX4_looksAtSlot_54 = true := by decide +kernel
def eX4_looksAtSlot_71 : List xI := [(.bipush 6, 2, 0, 0, (6))]
theorem kX4_looksAtSlot_71 : xcode (xmb mX4_looksAtSlot) (xmo mX4_looksAtSlot) 71 eX4_looksAtSlot_71 = true := by decide +kernel
def eX4_looksAtSlot_115 : List xI := [(.istore 5, 2, 0, 0, 0), (.iload 5, 2, 0, 0, 0)]
theorem kX4_looksAtSlot_115 : xcode (xmb mX4_looksAtSlot) (xmo mX4_looksAtSlot) 115 eX4_looksAtSlot_115 = true := by decide +kernel
def eX4_looksAtSlot_122 : List xI := [(.aload_n 0, 1, 0, 0, 0), (.iload 5, 2, 0, 0, 0), (.iload_n 1, 1, 0, 0, 0), (.iload_n 2, 1, 0, 0, 0)]
theorem kX4_looksAtSlot_122 : xcode (xmb mX4_looksAtSlot) (xmo mX4_looksAtSlot) 122 eX4_looksAtSlot_122 = true := by decide +kernel
def eX4_looksAtSlot_130 : List xI := [(.aload_n 0, 1, 0, 0, 0), (.getfield 7, 3, 4, 1, 0), (.bipush 60, 2, 0, 0, (60)), (.iload_n 3, 1, 0, 0, 0), (.iadd, 1, 0, 0, 0), (.iconst (-1), 1, 0, 0, (-1)), (.iastore, 1, 0, 0, 0)]
theorem kX4_looksAtSlot_130 : xcode (xmb mX4_looksAtSlot) (xmo mX4_looksAtSlot) 130 eX4_looksAtSlot_130 = true := by decide +kernel
def eX4_looksAtSlot_59 : List xI := [(.aload_n 0, 1, 0, 0, 0), (.getfield 7, 3, 4, 1, 0), (.iconst 0, 1, 0, 0, (0)), (.iload 4, 2, 0, 0, 0), (.iadd, 1, 0, 0, 0), (.iaload, 1, 0, 0, 0)]
theorem kX4_looksAtSlot_59 : xcode (xmb mX4_looksAtSlot) (xmo mX4_looksAtSlot) 59 eX4_looksAtSlot_59 = true := by decide +kernel
def eX4_looksAtSlot_76 : List xI := [(.aload_n 0, 1, 0, 0, 0), (.iload_n 1, 1, 0, 0, 0), (.iload_n 2, 1, 0, 0, 0)]
theorem kX4_looksAtSlot_76 : xcode (xmb mX4_looksAtSlot) (xmo mX4_looksAtSlot) 76 eX4_looksAtSlot_76 = true := by decide +kernel
def eX4_looksAtSlot_90 : List xI := [(.aload_n 0, 1, 0, 0, 0), (.iload 4, 2, 0, 0, 0)]
theorem kX4_looksAtSlot_90 : xcode (xmb mX4_looksAtSlot) (xmo mX4_looksAtSlot) 90 eX4_looksAtSlot_90 = true := by decide +kernel
def eX4_looksAtSlot_114 : List xI := [(.iconst 0, 1, 0, 0, (0))]
theorem kX4_looksAtSlot_114 : xcode (xmb mX4_looksAtSlot) (xmo mX4_looksAtSlot) 114 eX4_looksAtSlot_114 = true := by decide +kernel
def eX4_looksAtSlot_99 : List xI := [(.aload_n 0, 1, 0, 0, 0), (.iload_n 3, 1, 0, 0, 0), (.iload 4, 2, 0, 0, 0)]
theorem kX4_looksAtSlot_99 : xcode (xmb mX4_looksAtSlot) (xmo mX4_looksAtSlot) 99 eX4_looksAtSlot_99 = true := by decide +kernel
def eX4_looksAtSlot_109 : List xI := [(.bipush 8, 2, 0, 0, (8))]
theorem kX4_looksAtSlot_109 : xcode (xmb mX4_looksAtSlot) (xmo mX4_looksAtSlot) 109 eX4_looksAtSlot_109 = true := by decide +kernel
def eX4_looksAtSlot_85 : List xI := [(.bipush 7, 2, 0, 0, (7))]
theorem kX4_looksAtSlot_85 : xcode (xmb mX4_looksAtSlot) (xmo mX4_looksAtSlot) 85 eX4_looksAtSlot_85 = true := by decide +kernel
def eX4_looksAtSlot_50 : List xI := [(.iconst 5, 1, 0, 0, (5))]
theorem kX4_looksAtSlot_50 : xcode (xmb mX4_looksAtSlot) (xmo mX4_looksAtSlot) 50 eX4_looksAtSlot_50 = true := by decide +kernel
def wX4_looksAtSlot_140 (p1 : Int32) (p2 : Int32) (Q : xM → Prop) (M : xM) : Prop :=
    Q M
set_option maxHeartbeats 4000000 in
set_option maxRecDepth 100000 in
theorem tX4_looksAtSlot_140 {l : Launch} {E : xE} {p1 : Int32} {p2 : Int32} {Q : xM → Prop} (M : xM) (h : wX4_looksAtSlot_140 p1 p2 Q M ) : Gx l E mX4_looksAtSlot (xRv Q) 140 M [none, none, none, none, none, none] [] := by
  unfold wX4_looksAtSlot_140 at h
  exact Gx_vret (by decide +kernel) rfl ⟨rfl, h⟩
def wX4_looksAtSlot_115 (p1 : Int32) (p2 : Int32) (Q : xM → Prop) (M : xM) (s0 : Int32) : Prop :=
    (((s0 ≤ 0) → (wX4_looksAtSlot_140 p1 p2 Q M)) ∧ ((¬ s0 ≤ 0) → (wX4_asks M s0 p1 p2 (fun M127 => (vp_in ((60 : Int32) + (((6 : Int32) * p1) + p2)) 147) ∧ wX4_looksAtSlot_140 p1 p2 Q (xup M127 51 ((60 : Int32) + (((6 : Int32) * p1) + p2)).toNatClampNeg (-1 : Int32))))))
set_option maxHeartbeats 4000000 in
set_option maxRecDepth 100000 in
theorem tX4_looksAtSlot_115 {l : Launch} {E : xE} {p1 : Int32} {p2 : Int32} {Q : xM → Prop} (M : xM) (s0 : Int32) (h : wX4_looksAtSlot_115 p1 p2 Q M s0) : Gx l E mX4_looksAtSlot (xRv Q) 115 M [some (.ref 50), some (.int p1), some (.int p2), some (.int (((6 : Int32) * p1) + p2)), none, none] [.int s0] := by
  unfold wX4_looksAtSlot_115 at h
  refine Gx_run (es := eX4_looksAtSlot_115) (P := []) (M' := M) (L' := [some (.ref 50), some (.int p1), some (.int p2), some (.int (((6 : Int32) * p1) + p2)), none, some (.int s0)]) (st' := [.int s0]) (pc' := 119) kX4_looksAtSlot_115 rfl trivial rfl ?_
  refine Gx_if_le (off := 21) (tgt := 140) (by decide +kernel) (by decide) (fun z => ?_) (fun z => ?_)
  · have h := h.1 z
    refine Gx_mask [false, false, false, false, false, false] (L' := [none, none, none, none, none, none]) rfl ?_
    exact tX4_looksAtSlot_140  M h
  · have h := h.2 z
    refine Gx_run (es := eX4_looksAtSlot_122) (P := []) (M' := M) (L' := [some (.ref 50), some (.int p1), some (.int p2), some (.int (((6 : Int32) * p1) + p2)), none, some (.int s0)]) (st' := [.int p2, .int p1, .int s0, .ref 50]) (pc' := 127) kX4_looksAtSlot_122 rfl trivial rfl ?_
    refine Gx_callV (As := [.int s0, .int p1, .int p2]) (by decide +kernel) ml_4_136 okX4_asks mvX4_asks rfl (by decide) (Nat.le_of_ble_eq_true rfl) rfl rfl rfl (tX4_asks h) (fun rr M127 qq => ?_)
    obtain ⟨rfl, h⟩ := qq
    show Gx l E mX4_looksAtSlot _ 130 M127 [some (.ref 50), some (.int p1), some (.int p2), some (.int (((6 : Int32) * p1) + p2)), none, some (.int s0)] []
    obtain ⟨g130_0, h⟩ := h
    refine Gx_run (es := eX4_looksAtSlot_130) (P := [xkd 50 = 4, xkd 51 = 5, vp_in ((60 : Int32) + (((6 : Int32) * p1) + p2)) (xln 51)]) (M' := (xup M127 51 ((60 : Int32) + (((6 : Int32) * p1) + p2)).toNatClampNeg (-1 : Int32))) (L' := [some (.ref 50), some (.int p1), some (.int p2), some (.int (((6 : Int32) * p1) + p2)), none, some (.int s0)]) (st' := []) (pc' := 140) kX4_looksAtSlot_130 rfl ⟨rfl, rfl, g130_0, trivial⟩ rfl ?_
    refine Gx_mask [false, false, false, false, false, false] (L' := [none, none, none, none, none, none]) rfl ?_
    exact tX4_looksAtSlot_140  (xup M127 51 ((60 : Int32) + (((6 : Int32) * p1) + p2)).toNatClampNeg (-1 : Int32)) h
def wX4_looksAtSlot_71 (p1 : Int32) (p2 : Int32) (Q : xM → Prop) (M : xM) : Prop :=
    wX4_looksAtSlot_115 p1 p2 Q M (6 : Int32)
set_option maxHeartbeats 4000000 in
set_option maxRecDepth 100000 in
theorem tX4_looksAtSlot_71 {l : Launch} {E : xE} {p1 : Int32} {p2 : Int32} {Q : xM → Prop} (M : xM) (h : wX4_looksAtSlot_71 p1 p2 Q M ) : Gx l E mX4_looksAtSlot (xRv Q) 71 M [some (.ref 50), some (.int p1), some (.int p2), some (.int (((6 : Int32) * p1) + p2)), none, none] [] := by
  unfold wX4_looksAtSlot_71 at h
  refine Gx_run (es := eX4_looksAtSlot_71) (P := []) (M' := M) (L' := [some (.ref 50), some (.int p1), some (.int p2), some (.int (((6 : Int32) * p1) + p2)), none, none]) (st' := [.int (6 : Int32)]) (pc' := 73) kX4_looksAtSlot_71 rfl trivial rfl ?_
  refine Gx_goto (off := 42) (tgt := 115) (by decide +kernel) (by decide) ?_
  refine Gx_mask [true, true, true, true, false, false] (L' := [some (.ref 50), some (.int p1), some (.int p2), some (.int (((6 : Int32) * p1) + p2)), none, none]) rfl ?_
  exact tX4_looksAtSlot_115  M (6 : Int32) h
def wX4_looksAtSlot_114 (p1 : Int32) (p2 : Int32) (Q : xM → Prop) (M : xM) : Prop :=
    wX4_looksAtSlot_115 p1 p2 Q M (0 : Int32)
set_option maxHeartbeats 4000000 in
set_option maxRecDepth 100000 in
theorem tX4_looksAtSlot_114 {l : Launch} {E : xE} {p1 : Int32} {p2 : Int32} {Q : xM → Prop} (M : xM) (h : wX4_looksAtSlot_114 p1 p2 Q M ) : Gx l E mX4_looksAtSlot (xRv Q) 114 M [some (.ref 50), some (.int p1), some (.int p2), some (.int (((6 : Int32) * p1) + p2)), none, none] [] := by
  unfold wX4_looksAtSlot_114 at h
  refine Gx_run (es := eX4_looksAtSlot_114) (P := []) (M' := M) (L' := [some (.ref 50), some (.int p1), some (.int p2), some (.int (((6 : Int32) * p1) + p2)), none, none]) (st' := [.int (0 : Int32)]) (pc' := 115) kX4_looksAtSlot_114 rfl trivial rfl ?_
  refine Gx_mask [true, true, true, true, false, false] (L' := [some (.ref 50), some (.int p1), some (.int p2), some (.int (((6 : Int32) * p1) + p2)), none, none]) rfl ?_
  exact tX4_looksAtSlot_115  M (0 : Int32) h
def wX4_looksAtSlot (M : xM) (p1 : Int32) (p2 : Int32) (Q : xM → Prop) : Prop :=
    (vp_in ((60 : Int32) + (((6 : Int32) * p1) + p2)) 147) ∧ (((¬ (M 51 ((60 : Int32) + (((6 : Int32) * p1) + p2)).toNatClampNeg) = (-1 : Int32)) → ((vp_in ((60 : Int32) + (((6 : Int32) * p1) + p2)) 147) ∧ (vp_in ((0 : Int32) + p1) 147) ∧ wX4_lists M (M 51 ((0 : Int32) + p1).toNatClampNeg) (fun r44 M44 => (((p2 < r44) → ((((((M 51 ((60 : Int32) + (((6 : Int32) * p1) + p2)).toNatClampNeg) / (26 : Int32)) = 0) → (wX4_looksAtSlot_71 p1 p2 Q M44)) ∧ ((¬ ((M 51 ((60 : Int32) + (((6 : Int32) * p1) + p2)).toNatClampNeg) / (26 : Int32)) = 0) → ((vp_in ((0 : Int32) + ((M 51 ((60 : Int32) + (((6 : Int32) * p1) + p2)).toNatClampNeg) / (26 : Int32))) 147) ∧ (((¬ (M44 51 ((0 : Int32) + ((M 51 ((60 : Int32) + (((6 : Int32) * p1) + p2)).toNatClampNeg) / (26 : Int32))).toNatClampNeg) = 0) → (wX4_isNamedAhead M44 p1 p2 (fun r79 M79 => (((r79 = 0) → (wX4_isDirectory M79 ((M 51 ((60 : Int32) + (((6 : Int32) * p1) + p2)).toNatClampNeg) / (26 : Int32)) (fun r93 M93 => (((r93 = 0) → (wX4_looksAtSlot_114 p1 p2 Q M93)) ∧ ((¬ r93 = 0) → (wX4_isListedAhead M93 (((6 : Int32) * p1) + p2) ((M 51 ((60 : Int32) + (((6 : Int32) * p1) + p2)).toNatClampNeg) / (26 : Int32)) (fun r103 M103 => (((r103 = 0) → (wX4_looksAtSlot_114 p1 p2 Q M103)) ∧ ((¬ r103 = 0) → (wX4_looksAtSlot_115 p1 p2 Q M103 (8 : Int32))))))))))) ∧ ((¬ r79 = 0) → (wX4_looksAtSlot_115 p1 p2 Q M79 (7 : Int32))))))) ∧ (((M44 51 ((0 : Int32) + ((M 51 ((60 : Int32) + (((6 : Int32) * p1) + p2)).toNatClampNeg) / (26 : Int32))).toNatClampNeg) = 0) → (wX4_looksAtSlot_71 p1 p2 Q M44)))))))) ∧ ((¬ p2 < r44) → (wX4_looksAtSlot_115 p1 p2 Q M44 (5 : Int32))))))) ∧ (((M 51 ((60 : Int32) + (((6 : Int32) * p1) + p2)).toNatClampNeg) = (-1 : Int32)) → (Q M)))
set_option maxHeartbeats 4000000 in
set_option maxRecDepth 100000 in
theorem tX4_looksAtSlot {l : Launch} {E : xE} {M : xM} {p1 : Int32} {p2 : Int32} {Q : xM → Prop} (h : wX4_looksAtSlot M p1 p2 Q) : Ct l E mX4_looksAtSlot [.ref 50, .int p1, .int p2] M (xRv Q) := by
  refine Ct_of (by decide +kernel) rfl (Nat.le_of_ble_eq_true rfl) ?_
  unfold wX4_looksAtSlot at h
  show Gx l E mX4_looksAtSlot (xRv Q) 0 M [some (.ref 50), some (.int p1), some (.int p2), none, none, none] []
  obtain ⟨g0_0, h⟩ := h
  refine Gx_run (es := eX4_looksAtSlot_0) (P := [xkd 50 = 4, xkd 51 = 5, vp_in ((60 : Int32) + (((6 : Int32) * p1) + p2)) (xln 51)]) (M' := M) (L' := [some (.ref 50), some (.int p1), some (.int p2), some (.int (((6 : Int32) * p1) + p2)), none, none]) (st' := [.int (-1 : Int32), .int (M 51 ((60 : Int32) + (((6 : Int32) * p1) + p2)).toNatClampNeg)]) (pc' := 17) kX4_looksAtSlot_0 rfl ⟨rfl, rfl, g0_0, trivial⟩ rfl ?_
  refine Gx_icmp_ne (off := 4) (tgt := 21) (by decide +kernel) (by decide) (fun z => ?_) (fun z => ?_)
  · have h := h.1 z
    obtain ⟨g21_0, g21_1, h⟩ := h
    refine Gx_run (es := eX4_looksAtSlot_21) (P := [xkd 50 = 4, xkd 51 = 5, vp_in ((60 : Int32) + (((6 : Int32) * p1) + p2)) (xln 51), ¬ (26 : Int32) = 0, xkd 50 = 4, xkd 51 = 5, vp_in ((0 : Int32) + p1) (xln 51)]) (M' := M) (L' := [some (.ref 50), some (.int p1), some (.int p2), some (.int (((6 : Int32) * p1) + p2)), some (.int ((M 51 ((60 : Int32) + (((6 : Int32) * p1) + p2)).toNatClampNeg) / (26 : Int32))), none]) (st' := [.int (M 51 ((0 : Int32) + p1).toNatClampNeg), .int p2]) (pc' := 44) kX4_looksAtSlot_21 rfl ⟨rfl, rfl, g21_0, (by decide), rfl, rfl, g21_1, trivial⟩ rfl ?_
    refine Gx_callS (As := [.int (M 51 ((0 : Int32) + p1).toNatClampNeg)]) (by decide +kernel) ml_4_118 okX4_lists mvX4_lists rfl (by decide) (Nat.le_of_ble_eq_true rfl) (tX4_lists h) (fun rr M44 qq => ?_)
    obtain ⟨r44, rfl, h⟩ := qq
    show Gx l E mX4_looksAtSlot _ 47 M44 [some (.ref 50), some (.int p1), some (.int p2), some (.int (((6 : Int32) * p1) + p2)), some (.int ((M 51 ((60 : Int32) + (((6 : Int32) * p1) + p2)).toNatClampNeg) / (26 : Int32))), none] [.int r44, .int p2]
    refine Gx_icmp_lt (off := 7) (tgt := 54) (by decide +kernel) (by decide) (fun z => ?_) (fun z => ?_)
    · have h := h.1 z
      refine Gx_run (es := eX4_looksAtSlot_54) (P := []) (M' := M44) (L' := [some (.ref 50), some (.int p1), some (.int p2), some (.int (((6 : Int32) * p1) + p2)), some (.int ((M 51 ((60 : Int32) + (((6 : Int32) * p1) + p2)).toNatClampNeg) / (26 : Int32))), none]) (st' := [.int ((M 51 ((60 : Int32) + (((6 : Int32) * p1) + p2)).toNatClampNeg) / (26 : Int32))]) (pc' := 56) kX4_looksAtSlot_54 rfl trivial rfl ?_
      refine Gx_if_eq (off := 15) (tgt := 71) (by decide +kernel) (by decide) (fun z => ?_) (fun z => ?_)
      · have h := h.1 z
        refine Gx_mask [true, true, true, true, false, false] (L' := [some (.ref 50), some (.int p1), some (.int p2), some (.int (((6 : Int32) * p1) + p2)), none, none]) rfl ?_
        exact tX4_looksAtSlot_71  M44 h
      · have h := h.2 z
        obtain ⟨g59_0, h⟩ := h
        refine Gx_run (es := eX4_looksAtSlot_59) (P := [xkd 50 = 4, xkd 51 = 5, vp_in ((0 : Int32) + ((M 51 ((60 : Int32) + (((6 : Int32) * p1) + p2)).toNatClampNeg) / (26 : Int32))) (xln 51)]) (M' := M44) (L' := [some (.ref 50), some (.int p1), some (.int p2), some (.int (((6 : Int32) * p1) + p2)), some (.int ((M 51 ((60 : Int32) + (((6 : Int32) * p1) + p2)).toNatClampNeg) / (26 : Int32))), none]) (st' := [.int (M44 51 ((0 : Int32) + ((M 51 ((60 : Int32) + (((6 : Int32) * p1) + p2)).toNatClampNeg) / (26 : Int32))).toNatClampNeg)]) (pc' := 68) kX4_looksAtSlot_59 rfl ⟨rfl, rfl, g59_0, trivial⟩ rfl ?_
        refine Gx_if_ne (off := 8) (tgt := 76) (by decide +kernel) (by decide) (fun z => ?_) (fun z => ?_)
        · have h := h.1 z
          refine Gx_run (es := eX4_looksAtSlot_76) (P := []) (M' := M44) (L' := [some (.ref 50), some (.int p1), some (.int p2), some (.int (((6 : Int32) * p1) + p2)), some (.int ((M 51 ((60 : Int32) + (((6 : Int32) * p1) + p2)).toNatClampNeg) / (26 : Int32))), none]) (st' := [.int p2, .int p1, .ref 50]) (pc' := 79) kX4_looksAtSlot_76 rfl trivial rfl ?_
          refine Gx_callV (As := [.int p1, .int p2]) (by decide +kernel) ml_4_149 okX4_isNamedAhead mvX4_isNamedAhead rfl (by decide) (Nat.le_of_ble_eq_true rfl) rfl rfl rfl (tX4_isNamedAhead h) (fun rr M79 qq => ?_)
          obtain ⟨r79, rfl, h⟩ := qq
          show Gx l E mX4_looksAtSlot _ 82 M79 [some (.ref 50), some (.int p1), some (.int p2), some (.int (((6 : Int32) * p1) + p2)), some (.int ((M 51 ((60 : Int32) + (((6 : Int32) * p1) + p2)).toNatClampNeg) / (26 : Int32))), none] [.int r79]
          refine Gx_if_eq (off := 8) (tgt := 90) (by decide +kernel) (by decide) (fun z => ?_) (fun z => ?_)
          · have h := h.1 z
            refine Gx_run (es := eX4_looksAtSlot_90) (P := []) (M' := M79) (L' := [some (.ref 50), some (.int p1), some (.int p2), some (.int (((6 : Int32) * p1) + p2)), some (.int ((M 51 ((60 : Int32) + (((6 : Int32) * p1) + p2)).toNatClampNeg) / (26 : Int32))), none]) (st' := [.int ((M 51 ((60 : Int32) + (((6 : Int32) * p1) + p2)).toNatClampNeg) / (26 : Int32)), .ref 50]) (pc' := 93) kX4_looksAtSlot_90 rfl trivial rfl ?_
            refine Gx_callV (As := [.int ((M 51 ((60 : Int32) + (((6 : Int32) * p1) + p2)).toNatClampNeg) / (26 : Int32))]) (by decide +kernel) ml_4_152 okX4_isDirectory mvX4_isDirectory rfl (by decide) (Nat.le_of_ble_eq_true rfl) rfl rfl rfl (tX4_isDirectory h) (fun rr M93 qq => ?_)
            obtain ⟨r93, rfl, h⟩ := qq
            show Gx l E mX4_looksAtSlot _ 96 M93 [some (.ref 50), some (.int p1), some (.int p2), some (.int (((6 : Int32) * p1) + p2)), some (.int ((M 51 ((60 : Int32) + (((6 : Int32) * p1) + p2)).toNatClampNeg) / (26 : Int32))), none] [.int r93]
            refine Gx_if_eq (off := 18) (tgt := 114) (by decide +kernel) (by decide) (fun z => ?_) (fun z => ?_)
            · have h := h.1 z
              refine Gx_mask [true, true, true, true, false, false] (L' := [some (.ref 50), some (.int p1), some (.int p2), some (.int (((6 : Int32) * p1) + p2)), none, none]) rfl ?_
              exact tX4_looksAtSlot_114  M93 h
            · have h := h.2 z
              refine Gx_run (es := eX4_looksAtSlot_99) (P := []) (M' := M93) (L' := [some (.ref 50), some (.int p1), some (.int p2), some (.int (((6 : Int32) * p1) + p2)), some (.int ((M 51 ((60 : Int32) + (((6 : Int32) * p1) + p2)).toNatClampNeg) / (26 : Int32))), none]) (st' := [.int ((M 51 ((60 : Int32) + (((6 : Int32) * p1) + p2)).toNatClampNeg) / (26 : Int32)), .int (((6 : Int32) * p1) + p2), .ref 50]) (pc' := 103) kX4_looksAtSlot_99 rfl trivial rfl ?_
              refine Gx_callV (As := [.int (((6 : Int32) * p1) + p2), .int ((M 51 ((60 : Int32) + (((6 : Int32) * p1) + p2)).toNatClampNeg) / (26 : Int32))]) (by decide +kernel) ml_4_155 okX4_isListedAhead mvX4_isListedAhead rfl (by decide) (Nat.le_of_ble_eq_true rfl) rfl rfl rfl (tX4_isListedAhead h) (fun rr M103 qq => ?_)
              obtain ⟨r103, rfl, h⟩ := qq
              show Gx l E mX4_looksAtSlot _ 106 M103 [some (.ref 50), some (.int p1), some (.int p2), some (.int (((6 : Int32) * p1) + p2)), some (.int ((M 51 ((60 : Int32) + (((6 : Int32) * p1) + p2)).toNatClampNeg) / (26 : Int32))), none] [.int r103]
              refine Gx_if_eq (off := 8) (tgt := 114) (by decide +kernel) (by decide) (fun z => ?_) (fun z => ?_)
              · have h := h.1 z
                refine Gx_mask [true, true, true, true, false, false] (L' := [some (.ref 50), some (.int p1), some (.int p2), some (.int (((6 : Int32) * p1) + p2)), none, none]) rfl ?_
                exact tX4_looksAtSlot_114  M103 h
              · have h := h.2 z
                refine Gx_run (es := eX4_looksAtSlot_109) (P := []) (M' := M103) (L' := [some (.ref 50), some (.int p1), some (.int p2), some (.int (((6 : Int32) * p1) + p2)), some (.int ((M 51 ((60 : Int32) + (((6 : Int32) * p1) + p2)).toNatClampNeg) / (26 : Int32))), none]) (st' := [.int (8 : Int32)]) (pc' := 111) kX4_looksAtSlot_109 rfl trivial rfl ?_
                refine Gx_goto (off := 4) (tgt := 115) (by decide +kernel) (by decide) ?_
                refine Gx_mask [true, true, true, true, false, false] (L' := [some (.ref 50), some (.int p1), some (.int p2), some (.int (((6 : Int32) * p1) + p2)), none, none]) rfl ?_
                exact tX4_looksAtSlot_115  M103 (8 : Int32) h
          · have h := h.2 z
            refine Gx_run (es := eX4_looksAtSlot_85) (P := []) (M' := M79) (L' := [some (.ref 50), some (.int p1), some (.int p2), some (.int (((6 : Int32) * p1) + p2)), some (.int ((M 51 ((60 : Int32) + (((6 : Int32) * p1) + p2)).toNatClampNeg) / (26 : Int32))), none]) (st' := [.int (7 : Int32)]) (pc' := 87) kX4_looksAtSlot_85 rfl trivial rfl ?_
            refine Gx_goto (off := 28) (tgt := 115) (by decide +kernel) (by decide) ?_
            refine Gx_mask [true, true, true, true, false, false] (L' := [some (.ref 50), some (.int p1), some (.int p2), some (.int (((6 : Int32) * p1) + p2)), none, none]) rfl ?_
            exact tX4_looksAtSlot_115  M79 (7 : Int32) h
        · have h := h.2 z
          refine Gx_mask [true, true, true, true, false, false] (L' := [some (.ref 50), some (.int p1), some (.int p2), some (.int (((6 : Int32) * p1) + p2)), none, none]) rfl ?_
          exact tX4_looksAtSlot_71  M44 h
    · have h := h.2 z
      refine Gx_run (es := eX4_looksAtSlot_50) (P := []) (M' := M44) (L' := [some (.ref 50), some (.int p1), some (.int p2), some (.int (((6 : Int32) * p1) + p2)), some (.int ((M 51 ((60 : Int32) + (((6 : Int32) * p1) + p2)).toNatClampNeg) / (26 : Int32))), none]) (st' := [.int (5 : Int32)]) (pc' := 51) kX4_looksAtSlot_50 rfl trivial rfl ?_
      refine Gx_goto (off := 64) (tgt := 115) (by decide +kernel) (by decide) ?_
      refine Gx_mask [true, true, true, true, false, false] (L' := [some (.ref 50), some (.int p1), some (.int p2), some (.int (((6 : Int32) * p1) + p2)), none, none]) rfl ?_
      exact tX4_looksAtSlot_115  M44 (5 : Int32) h
  · have h := h.2 z
    exact Gx_vret (by decide +kernel) rfl ⟨rfl, h⟩
def eX4_marks_0 : List xI := [(.iload_n 1, 1, 0, 0, 0), (.iconst 0, 1, 0, 0, (0)), (.iconst 1, 1, 0, 0, (1))]
theorem kX4_marks_0 : xcode (xmb mX4_marks) (xmo mX4_marks) 0 eX4_marks_0 = true := by decide +kernel
def eX4_marks_16 : List xI := [(.iload_n 1, 1, 0, 0, 0)]
theorem kX4_marks_16 : xcode (xmb mX4_marks) (xmo mX4_marks) 16 eX4_marks_16 = true := by decide +kernel
def eX4_marks_30 : List xI := [(.iload_n 2, 1, 0, 0, 0)]
theorem kX4_marks_30 : xcode (xmb mX4_marks) (xmo mX4_marks) 30 eX4_marks_30 = true := by decide +kernel
def eX4_marks_43 : List xI := [(.iload_n 1, 1, 0, 0, 0)]
theorem kX4_marks_43 : xcode (xmb mX4_marks) (xmo mX4_marks) 43 eX4_marks_43 = true := by decide +kernel
def eX4_marks_53 : List xI := [(.sipush 145, 3, 0, 0, (145))]
theorem kX4_marks_53 : xcode (xmb mX4_marks) (xmo mX4_marks) 53 eX4_marks_53 = true := by decide +kernel
def eX4_marks_56 : List xI := [(.istore_n 3, 1, 0, 0, 0), (.aload_n 0, 1, 0, 0, 0), (.getfield 7, 3, 4, 1, 0), (.iload_n 3, 1, 0, 0, 0), (.dup2, 1, 0, 0, 0), (.iaload, 1, 0, 0, 0), (.iconst 1, 1, 0, 0, (1)), (.iload_n 2, 1, 0, 0, 0), (.ishl, 1, 0, 0, 0), (.ixor, 1, 0, 0, 0), (.iastore, 1, 0, 0, 0), (.aload_n 0, 1, 0, 0, 0), (.getfield 7, 3, 4, 1, 0), (.iload_n 3, 1, 0, 0, 0), (.iaload, 1, 0, 0, 0), (.iload_n 2, 1, 0, 0, 0), (.ishr, 1, 0, 0, 0), (.iconst 1, 1, 0, 0, (1)), (.iand, 1, 0, 0, 0)]
theorem kX4_marks_56 : xcode (xmb mX4_marks) (xmo mX4_marks) 56 eX4_marks_56 = true := by decide +kernel
def eX4_marks_47 : List xI := [(.sipush 144, 3, 0, 0, (144))]
theorem kX4_marks_47 : xcode (xmb mX4_marks) (xmo mX4_marks) 47 eX4_marks_47 = true := by decide +kernel
def eX4_marks_37 : List xI := [(.aload_n 0, 1, 0, 0, 0), (.iconst (-1), 1, 0, 0, (-1))]
theorem kX4_marks_37 : xcode (xmb mX4_marks) (xmo mX4_marks) 37 eX4_marks_37 = true := by decide +kernel
def eX4_marks_20 : List xI := [(.iload_n 2, 1, 0, 0, 0)]
theorem kX4_marks_20 : xcode (xmb mX4_marks) (xmo mX4_marks) 20 eX4_marks_20 = true := by decide +kernel
def eX4_marks_9 : List xI := [(.aload_n 0, 1, 0, 0, 0), (.bipush (-2), 2, 0, 0, (-2))]
theorem kX4_marks_9 : xcode (xmb mX4_marks) (xmo mX4_marks) 9 eX4_marks_9 = true := by decide +kernel
def wX4_marks_56 (p1 : Int32) (p2 : Int32) (Q : Int32 → xM → Prop) (M : xM) (s0 : Int32) : Prop :=
    (vp_in s0 147) ∧ Q ((((xup M 51 s0.toNatClampNeg ((M 51 s0.toNatClampNeg) ^^^ ((1 : Int32) <<< (p2 &&& 31)))) 51 s0.toNatClampNeg) >>> (p2 &&& 31)) &&& (1 : Int32)) (xup M 51 s0.toNatClampNeg ((M 51 s0.toNatClampNeg) ^^^ ((1 : Int32) <<< (p2 &&& 31))))
set_option maxHeartbeats 4000000 in
set_option maxRecDepth 100000 in
theorem tX4_marks_56 {l : Launch} {E : xE} {p1 : Int32} {p2 : Int32} {Q : Int32 → xM → Prop} (M : xM) (s0 : Int32) (h : wX4_marks_56 p1 p2 Q M s0) : Gx l E mX4_marks (xRi Q) 56 M [some (.ref 50), none, some (.int p2), none] [.int s0] := by
  unfold wX4_marks_56 at h
  obtain ⟨g56_0, h⟩ := h
  refine Gx_run (es := eX4_marks_56) (P := [xkd 50 = 4, xkd 51 = 5, vp_in s0 (xln 51), xkd 51 = 5, vp_in s0 (xln 51), xkd 50 = 4, xkd 51 = 5, vp_in s0 (xln 51)]) (M' := (xup M 51 s0.toNatClampNeg ((M 51 s0.toNatClampNeg) ^^^ ((1 : Int32) <<< (p2 &&& 31))))) (L' := [some (.ref 50), none, some (.int p2), some (.int s0)]) (st' := [.int ((((xup M 51 s0.toNatClampNeg ((M 51 s0.toNatClampNeg) ^^^ ((1 : Int32) <<< (p2 &&& 31)))) 51 s0.toNatClampNeg) >>> (p2 &&& 31)) &&& (1 : Int32))]) (pc' := 79) kX4_marks_56 rfl ⟨rfl, rfl, g56_0, rfl, g56_0, rfl, rfl, g56_0, trivial⟩ rfl ?_
  exact Gx_iret (by decide +kernel) rfl rfl ⟨_, rfl, h⟩
def wX4_marks_43 (p1 : Int32) (p2 : Int32) (Q : Int32 → xM → Prop) (M : xM) : Prop :=
    (((¬ p1 = 0) → (wX4_marks_56 p1 p2 Q M (145 : Int32))) ∧ ((p1 = 0) → (wX4_marks_56 p1 p2 Q M (144 : Int32))))
set_option maxHeartbeats 4000000 in
set_option maxRecDepth 100000 in
theorem tX4_marks_43 {l : Launch} {E : xE} {p1 : Int32} {p2 : Int32} {Q : Int32 → xM → Prop} (M : xM) (h : wX4_marks_43 p1 p2 Q M ) : Gx l E mX4_marks (xRi Q) 43 M [some (.ref 50), some (.int p1), some (.int p2), none] [] := by
  unfold wX4_marks_43 at h
  refine Gx_run (es := eX4_marks_43) (P := []) (M' := M) (L' := [some (.ref 50), some (.int p1), some (.int p2), none]) (st' := [.int p1]) (pc' := 44) kX4_marks_43 rfl trivial rfl ?_
  refine Gx_if_ne (off := 9) (tgt := 53) (by decide +kernel) (by decide) (fun z => ?_) (fun z => ?_)
  · have h := h.1 z
    refine Gx_run (es := eX4_marks_53) (P := []) (M' := M) (L' := [some (.ref 50), some (.int p1), some (.int p2), none]) (st' := [.int (145 : Int32)]) (pc' := 56) kX4_marks_53 rfl trivial rfl ?_
    refine Gx_mask [true, false, true, false] (L' := [some (.ref 50), none, some (.int p2), none]) rfl ?_
    exact tX4_marks_56  M (145 : Int32) h
  · have h := h.2 z
    refine Gx_run (es := eX4_marks_47) (P := []) (M' := M) (L' := [some (.ref 50), some (.int p1), some (.int p2), none]) (st' := [.int (144 : Int32)]) (pc' := 50) kX4_marks_47 rfl trivial rfl ?_
    refine Gx_goto (off := 6) (tgt := 56) (by decide +kernel) (by decide) ?_
    refine Gx_mask [true, false, true, false] (L' := [some (.ref 50), none, some (.int p2), none]) rfl ?_
    exact tX4_marks_56  M (144 : Int32) h
def wX4_marks_37 (p1 : Int32) (p2 : Int32) (Q : Int32 → xM → Prop) (M : xM) : Prop :=
    wX4_refused M (-1 : Int32) (fun r39 M39 => Q r39 M39)
set_option maxHeartbeats 4000000 in
set_option maxRecDepth 100000 in
theorem tX4_marks_37 {l : Launch} {E : xE} {p1 : Int32} {p2 : Int32} {Q : Int32 → xM → Prop} (M : xM) (h : wX4_marks_37 p1 p2 Q M ) : Gx l E mX4_marks (xRi Q) 37 M [some (.ref 50), none, none, none] [] := by
  unfold wX4_marks_37 at h
  refine Gx_run (es := eX4_marks_37) (P := []) (M' := M) (L' := [some (.ref 50), none, none, none]) (st' := [.int (-1 : Int32), .ref 50]) (pc' := 39) kX4_marks_37 rfl trivial rfl ?_
  refine Gx_callV (As := [.int (-1 : Int32)]) (by decide +kernel) ml_4_55 okX4_refused mvX4_refused rfl (by decide) (Nat.le_of_ble_eq_true rfl) rfl rfl rfl (tX4_refused h) (fun rr M39 qq => ?_)
  obtain ⟨r39, rfl, h⟩ := qq
  show Gx l E mX4_marks _ 42 M39 [some (.ref 50), none, none, none] [.int r39]
  exact Gx_iret (by decide +kernel) rfl rfl ⟨_, rfl, h⟩
def wX4_marks (M : xM) (p1 : Int32) (p2 : Int32) (Q : Int32 → xM → Prop) : Prop :=
    wX4_in M p1 (0 : Int32) (1 : Int32) (fun r3 M3 => (((¬ r3 = 0) → ((((¬ p1 = 0) → (wX4_isInode M3 p2 (fun r31 M31 => (((¬ r31 = 0) → (wX4_marks_43 p1 p2 Q M31)) ∧ ((r31 = 0) → (wX4_marks_37 p1 p2 Q M31)))))) ∧ ((p1 = 0) → (wX4_isBlock M3 p2 (fun r21 M21 => (((¬ r21 = 0) → (wX4_marks_43 p1 p2 Q M21)) ∧ ((r21 = 0) → (wX4_marks_37 p1 p2 Q M21))))))))) ∧ ((r3 = 0) → (wX4_refused M3 (-2 : Int32) (fun r12 M12 => Q r12 M12)))))
set_option maxHeartbeats 4000000 in
set_option maxRecDepth 100000 in
theorem tX4_marks {l : Launch} {E : xE} {M : xM} {p1 : Int32} {p2 : Int32} {Q : Int32 → xM → Prop} (h : wX4_marks M p1 p2 Q) : Ct l E mX4_marks [.ref 50, .int p1, .int p2] M (xRi Q) := by
  refine Ct_of (by decide +kernel) rfl (Nat.le_of_ble_eq_true rfl) ?_
  unfold wX4_marks at h
  show Gx l E mX4_marks (xRi Q) 0 M [some (.ref 50), some (.int p1), some (.int p2), none] []
  refine Gx_run (es := eX4_marks_0) (P := []) (M' := M) (L' := [some (.ref 50), some (.int p1), some (.int p2), none]) (st' := [.int (1 : Int32), .int (0 : Int32), .int p1]) (pc' := 3) kX4_marks_0 rfl trivial rfl ?_
  refine Gx_callS (As := [.int p1, .int (0 : Int32), .int (1 : Int32)]) (by decide +kernel) ml_4_43 okX4_in mvX4_in rfl (by decide) (Nat.le_of_ble_eq_true rfl) (tX4_in h) (fun rr M3 qq => ?_)
  obtain ⟨r3, rfl, h⟩ := qq
  show Gx l E mX4_marks _ 6 M3 [some (.ref 50), some (.int p1), some (.int p2), none] [.int r3]
  refine Gx_if_ne (off := 10) (tgt := 16) (by decide +kernel) (by decide) (fun z => ?_) (fun z => ?_)
  · have h := h.1 z
    refine Gx_run (es := eX4_marks_16) (P := []) (M' := M3) (L' := [some (.ref 50), some (.int p1), some (.int p2), none]) (st' := [.int p1]) (pc' := 17) kX4_marks_16 rfl trivial rfl ?_
    refine Gx_if_ne (off := 13) (tgt := 30) (by decide +kernel) (by decide) (fun z => ?_) (fun z => ?_)
    · have h := h.1 z
      refine Gx_run (es := eX4_marks_30) (P := []) (M' := M3) (L' := [some (.ref 50), some (.int p1), some (.int p2), none]) (st' := [.int p2]) (pc' := 31) kX4_marks_30 rfl trivial rfl ?_
      refine Gx_callS (As := [.int p2]) (by decide +kernel) ml_4_111 okX4_isInode mvX4_isInode rfl (by decide) (Nat.le_of_ble_eq_true rfl) (tX4_isInode h) (fun rr M31 qq => ?_)
      obtain ⟨r31, rfl, h⟩ := qq
      show Gx l E mX4_marks _ 34 M31 [some (.ref 50), some (.int p1), some (.int p2), none] [.int r31]
      refine Gx_if_ne (off := 9) (tgt := 43) (by decide +kernel) (by decide) (fun z => ?_) (fun z => ?_)
      · have h := h.1 z
        refine Gx_mask [true, true, true, false] (L' := [some (.ref 50), some (.int p1), some (.int p2), none]) rfl ?_
        exact tX4_marks_43  M31 h
      · have h := h.2 z
        refine Gx_mask [true, false, false, false] (L' := [some (.ref 50), none, none, none]) rfl ?_
        exact tX4_marks_37  M31 h
    · have h := h.2 z
      refine Gx_run (es := eX4_marks_20) (P := []) (M' := M3) (L' := [some (.ref 50), some (.int p1), some (.int p2), none]) (st' := [.int p2]) (pc' := 21) kX4_marks_20 rfl trivial rfl ?_
      refine Gx_callS (As := [.int p2]) (by decide +kernel) ml_4_127 okX4_isBlock mvX4_isBlock rfl (by decide) (Nat.le_of_ble_eq_true rfl) (tX4_isBlock h) (fun rr M21 qq => ?_)
      obtain ⟨r21, rfl, h⟩ := qq
      show Gx l E mX4_marks _ 24 M21 [some (.ref 50), some (.int p1), some (.int p2), none] [.int r21]
      refine Gx_if_ne (off := 19) (tgt := 43) (by decide +kernel) (by decide) (fun z => ?_) (fun z => ?_)
      · have h := h.1 z
        refine Gx_mask [true, true, true, false] (L' := [some (.ref 50), some (.int p1), some (.int p2), none]) rfl ?_
        exact tX4_marks_43  M21 h
      · have h := h.2 z
        refine Gx_goto (off := 10) (tgt := 37) (by decide +kernel) (by decide) ?_
        refine Gx_mask [true, false, false, false] (L' := [some (.ref 50), none, none, none]) rfl ?_
        exact tX4_marks_37  M21 h
  · have h := h.2 z
    refine Gx_run (es := eX4_marks_9) (P := []) (M' := M3) (L' := [some (.ref 50), some (.int p1), some (.int p2), none]) (st' := [.int (-2 : Int32), .ref 50]) (pc' := 12) kX4_marks_9 rfl trivial rfl ?_
    refine Gx_callV (As := [.int (-2 : Int32)]) (by decide +kernel) ml_4_55 okX4_refused mvX4_refused rfl (by decide) (Nat.le_of_ble_eq_true rfl) rfl rfl rfl (tX4_refused h) (fun rr M12 qq => ?_)
    obtain ⟨r12, rfl, h⟩ := qq
    show Gx l E mX4_marks _ 15 M12 [some (.ref 50), some (.int p1), some (.int p2), none] [.int r12]
    exact Gx_iret (by decide +kernel) rfl rfl ⟨_, rfl, h⟩
def eX4_pointer_0 : List xI := [(.iload_n 1, 1, 0, 0, 0)]
theorem kX4_pointer_0 : xcode (xmb mX4_pointer) (xmo mX4_pointer) 0 eX4_pointer_0 = true := by decide +kernel
def eX4_pointer_25 : List xI := [(.aload_n 0, 1, 0, 0, 0), (.iconst (-1), 1, 0, 0, (-1))]
theorem kX4_pointer_25 : xcode (xmb mX4_pointer) (xmo mX4_pointer) 25 eX4_pointer_25 = true := by decide +kernel
def eX4_pointer_7 : List xI := [(.iload_n 2, 1, 0, 0, 0), (.iconst 0, 1, 0, 0, (0)), (.iconst 2, 1, 0, 0, (2))]
theorem kX4_pointer_7 : xcode (xmb mX4_pointer) (xmo mX4_pointer) 7 eX4_pointer_7 = true := by decide +kernel
def eX4_pointer_16 : List xI := [(.aload_n 0, 1, 0, 0, 0), (.iload_n 1, 1, 0, 0, 0), (.iload_n 2, 1, 0, 0, 0)]
theorem kX4_pointer_16 : xcode (xmb mX4_pointer) (xmo mX4_pointer) 16 eX4_pointer_16 = true := by decide +kernel
def wX4_pointer_30 (p1 : Int32) (p2 : Int32) (Q : Int32 → xM → Prop) (M : xM) (s0 : Int32) : Prop :=
    Q s0 M
set_option maxHeartbeats 4000000 in
set_option maxRecDepth 100000 in
theorem tX4_pointer_30 {l : Launch} {E : xE} {p1 : Int32} {p2 : Int32} {Q : Int32 → xM → Prop} (M : xM) (s0 : Int32) (h : wX4_pointer_30 p1 p2 Q M s0) : Gx l E mX4_pointer (xRi Q) 30 M [none, none, none] [.int s0] := by
  unfold wX4_pointer_30 at h
  exact Gx_iret (by decide +kernel) rfl rfl ⟨_, rfl, h⟩
def wX4_pointer_25 (p1 : Int32) (p2 : Int32) (Q : Int32 → xM → Prop) (M : xM) : Prop :=
    wX4_refused M (-1 : Int32) (fun r27 M27 => wX4_pointer_30 p1 p2 Q M27 r27)
set_option maxHeartbeats 4000000 in
set_option maxRecDepth 100000 in
theorem tX4_pointer_25 {l : Launch} {E : xE} {p1 : Int32} {p2 : Int32} {Q : Int32 → xM → Prop} (M : xM) (h : wX4_pointer_25 p1 p2 Q M ) : Gx l E mX4_pointer (xRi Q) 25 M [some (.ref 50), none, none] [] := by
  unfold wX4_pointer_25 at h
  refine Gx_run (es := eX4_pointer_25) (P := []) (M' := M) (L' := [some (.ref 50), none, none]) (st' := [.int (-1 : Int32), .ref 50]) (pc' := 27) kX4_pointer_25 rfl trivial rfl ?_
  refine Gx_callV (As := [.int (-1 : Int32)]) (by decide +kernel) ml_4_55 okX4_refused mvX4_refused rfl (by decide) (Nat.le_of_ble_eq_true rfl) rfl rfl rfl (tX4_refused h) (fun rr M27 qq => ?_)
  obtain ⟨r27, rfl, h⟩ := qq
  show Gx l E mX4_pointer _ 30 M27 [some (.ref 50), none, none] [.int r27]
  refine Gx_mask [false, false, false] (L' := [none, none, none]) rfl ?_
  exact tX4_pointer_30  M27 r27 h
def wX4_pointer (M : xM) (p1 : Int32) (p2 : Int32) (Q : Int32 → xM → Prop) : Prop :=
    wX4_isInode M p1 (fun r1 M1 => (((r1 = 0) → (wX4_pointer_25 p1 p2 Q M1)) ∧ ((¬ r1 = 0) → (wX4_in M1 p2 (0 : Int32) (2 : Int32) (fun r10 M10 => (((r10 = 0) → (wX4_pointer_25 p1 p2 Q M10)) ∧ ((¬ r10 = 0) → (wX4_pointerOf M10 p1 p2 (fun r19 M19 => wX4_pointer_30 p1 p2 Q M19 r19)))))))))
set_option maxHeartbeats 4000000 in
set_option maxRecDepth 100000 in
theorem tX4_pointer {l : Launch} {E : xE} {M : xM} {p1 : Int32} {p2 : Int32} {Q : Int32 → xM → Prop} (h : wX4_pointer M p1 p2 Q) : Ct l E mX4_pointer [.ref 50, .int p1, .int p2] M (xRi Q) := by
  refine Ct_of (by decide +kernel) rfl (Nat.le_of_ble_eq_true rfl) ?_
  unfold wX4_pointer at h
  show Gx l E mX4_pointer (xRi Q) 0 M [some (.ref 50), some (.int p1), some (.int p2)] []
  refine Gx_run (es := eX4_pointer_0) (P := []) (M' := M) (L' := [some (.ref 50), some (.int p1), some (.int p2)]) (st' := [.int p1]) (pc' := 1) kX4_pointer_0 rfl trivial rfl ?_
  refine Gx_callS (As := [.int p1]) (by decide +kernel) ml_4_111 okX4_isInode mvX4_isInode rfl (by decide) (Nat.le_of_ble_eq_true rfl) (tX4_isInode h) (fun rr M1 qq => ?_)
  obtain ⟨r1, rfl, h⟩ := qq
  show Gx l E mX4_pointer _ 4 M1 [some (.ref 50), some (.int p1), some (.int p2)] [.int r1]
  refine Gx_if_eq (off := 21) (tgt := 25) (by decide +kernel) (by decide) (fun z => ?_) (fun z => ?_)
  · have h := h.1 z
    refine Gx_mask [true, false, false] (L' := [some (.ref 50), none, none]) rfl ?_
    exact tX4_pointer_25  M1 h
  · have h := h.2 z
    refine Gx_run (es := eX4_pointer_7) (P := []) (M' := M1) (L' := [some (.ref 50), some (.int p1), some (.int p2)]) (st' := [.int (2 : Int32), .int (0 : Int32), .int p2]) (pc' := 10) kX4_pointer_7 rfl trivial rfl ?_
    refine Gx_callS (As := [.int p2, .int (0 : Int32), .int (2 : Int32)]) (by decide +kernel) ml_4_43 okX4_in mvX4_in rfl (by decide) (Nat.le_of_ble_eq_true rfl) (tX4_in h) (fun rr M10 qq => ?_)
    obtain ⟨r10, rfl, h⟩ := qq
    show Gx l E mX4_pointer _ 13 M10 [some (.ref 50), some (.int p1), some (.int p2)] [.int r10]
    refine Gx_if_eq (off := 12) (tgt := 25) (by decide +kernel) (by decide) (fun z => ?_) (fun z => ?_)
    · have h := h.1 z
      refine Gx_mask [true, false, false] (L' := [some (.ref 50), none, none]) rfl ?_
      exact tX4_pointer_25  M10 h
    · have h := h.2 z
      refine Gx_run (es := eX4_pointer_16) (P := []) (M' := M10) (L' := [some (.ref 50), some (.int p1), some (.int p2)]) (st' := [.int p2, .int p1, .ref 50]) (pc' := 19) kX4_pointer_16 rfl trivial rfl ?_
      refine Gx_callV (As := [.int p1, .int p2]) (by decide +kernel) ml_4_121 okX4_pointerOf mvX4_pointerOf rfl (by decide) (Nat.le_of_ble_eq_true rfl) rfl rfl rfl (tX4_pointerOf h) (fun rr M19 qq => ?_)
      obtain ⟨r19, rfl, h⟩ := qq
      show Gx l E mX4_pointer _ 22 M19 [some (.ref 50), some (.int p1), some (.int p2)] [.int r19]
      refine Gx_goto (off := 8) (tgt := 30) (by decide +kernel) (by decide) ?_
      refine Gx_mask [false, false, false] (L' := [none, none, none]) rfl ?_
      exact tX4_pointer_30  M19 r19 h
