/-! walks: X4_mend, X4_pointerThen, X4_second, X4_slotThen -/
def eX4_mend_0 : List xI := [(.iload_n 1, 1, 0, 0, 0), (.iconst 0, 1, 0, 0, (0)), (.iconst 1, 1, 0, 0, (1))]
theorem kX4_mend_0 : xcode (xmb mX4_mend) (xmo mX4_mend) 0 eX4_mend_0 = true := by decide +kernel
def eX4_mend_16 : List xI := [(.aload_n 0, 1, 0, 0, 0)]
theorem kX4_mend_16 : xcode (xmb mX4_mend) (xmo mX4_mend) 16 eX4_mend_16 = true := by decide +kernel
def eX4_mend_20 : List xI := [(.aload_n 0, 1, 0, 0, 0)]
theorem kX4_mend_20 : xcode (xmb mX4_mend) (xmo mX4_mend) 20 eX4_mend_20 = true := by decide +kernel
def eX4_mend_24 : List xI := [(.istore_n 2, 1, 0, 0, 0), (.bipush (-9), 2, 0, 0, (-9)), (.istore_n 3, 1, 0, 0, 0), (.iconst 1, 1, 0, 0, (1)), (.istore 4, 2, 0, 0, 0)]
theorem kX4_mend_24 : xcode (xmb mX4_mend) (xmo mX4_mend) 24 eX4_mend_24 = true := by decide +kernel
def eX4_mend_31 : List xI := [(.iload 4, 2, 0, 0, 0), (.bipush 10, 2, 0, 0, (10))]
theorem kX4_mend_31 : xcode (xmb mX4_mend) (xmo mX4_mend) 31 eX4_mend_31 = true := by decide +kernel
def eX4_mend_87 : List xI := [(.aload_n 0, 1, 0, 0, 0)]
theorem kX4_mend_87 : xcode (xmb mX4_mend) (xmo mX4_mend) 87 eX4_mend_87 = true := by decide +kernel
def eX4_mend_91 : List xI := [(.iload_n 3, 1, 0, 0, 0), (.bipush (-9), 2, 0, 0, (-9))]
theorem kX4_mend_91 : xcode (xmb mX4_mend) (xmo mX4_mend) 91 eX4_mend_91 = true := by decide +kernel
def eX4_mend_101 : List xI := [(.iload_n 3, 1, 0, 0, 0)]
theorem kX4_mend_101 : xcode (xmb mX4_mend) (xmo mX4_mend) 101 eX4_mend_101 = true := by decide +kernel
def eX4_mend_97 : List xI := [(.iload_n 1, 1, 0, 0, 0)]
theorem kX4_mend_97 : xcode (xmb mX4_mend) (xmo mX4_mend) 97 eX4_mend_97 = true := by decide +kernel
def eX4_mend_105 : List xI := [(.iload_n 2, 1, 0, 0, 0)]
theorem kX4_mend_105 : xcode (xmb mX4_mend) (xmo mX4_mend) 105 eX4_mend_105 = true := by decide +kernel
def eX4_mend_38 : List xI := [(.aload_n 0, 1, 0, 0, 0)]
theorem kX4_mend_38 : xcode (xmb mX4_mend) (xmo mX4_mend) 38 eX4_mend_38 = true := by decide +kernel
def eX4_mend_42 : List xI := [(.aload_n 0, 1, 0, 0, 0), (.iload 4, 2, 0, 0, 0), (.iconst 0, 1, 0, 0, (0))]
theorem kX4_mend_42 : xcode (xmb mX4_mend) (xmo mX4_mend) 42 eX4_mend_42 = true := by decide +kernel
def eX4_mend_49 : List xI := [(.aload_n 0, 1, 0, 0, 0)]
theorem kX4_mend_49 : xcode (xmb mX4_mend) (xmo mX4_mend) 49 eX4_mend_49 = true := by decide +kernel
def eX4_mend_53 : List xI := [(.istore 5, 2, 0, 0, 0), (.iload 5, 2, 0, 0, 0), (.iload_n 2, 1, 0, 0, 0)]
theorem kX4_mend_53 : xcode (xmb mX4_mend) (xmo mX4_mend) 53 eX4_mend_53 = true := by decide +kernel
def eX4_mend_66 : List xI := [(.iload_n 3, 1, 0, 0, 0)]
theorem kX4_mend_66 : xcode (xmb mX4_mend) (xmo mX4_mend) 66 eX4_mend_66 = true := by decide +kernel
def eX4_mend_67 : List xI := [(.istore_n 3, 1, 0, 0, 0), (.iload 5, 2, 0, 0, 0), (.iload_n 2, 1, 0, 0, 0)]
theorem kX4_mend_67 : xcode (xmb mX4_mend) (xmo mX4_mend) 67 eX4_mend_67 = true := by decide +kernel
def eX4_mend_79 : List xI := [(.iload_n 2, 1, 0, 0, 0)]
theorem kX4_mend_79 : xcode (xmb mX4_mend) (xmo mX4_mend) 79 eX4_mend_79 = true := by decide +kernel
def eX4_mend_80 : List xI := [(.istore_n 2, 1, 0, 0, 0), (.iinc 4 1, 3, 0, 0, (1))]
theorem kX4_mend_80 : xcode (xmb mX4_mend) (xmo mX4_mend) 80 eX4_mend_80 = true := by decide +kernel
def eX4_mend_74 : List xI := [(.iload 5, 2, 0, 0, 0)]
theorem kX4_mend_74 : xcode (xmb mX4_mend) (xmo mX4_mend) 74 eX4_mend_74 = true := by decide +kernel
def eX4_mend_61 : List xI := [(.iload 4, 2, 0, 0, 0)]
theorem kX4_mend_61 : xcode (xmb mX4_mend) (xmo mX4_mend) 61 eX4_mend_61 = true := by decide +kernel
def eX4_mend_9 : List xI := [(.aload_n 0, 1, 0, 0, 0), (.bipush (-2), 2, 0, 0, (-2))]
theorem kX4_mend_9 : xcode (xmb mX4_mend) (xmo mX4_mend) 9 eX4_mend_9 = true := by decide +kernel
def wX4_mend_106 (p1 : Int32) (Q : Int32 → xM → Prop) (M : xM) (s0 : Int32) : Prop :=
    Q s0 M
set_option maxHeartbeats 4000000 in
set_option maxRecDepth 100000 in
theorem tX4_mend_106 {l : Launch} {E : xE} {p1 : Int32} {Q : Int32 → xM → Prop} (M : xM) (s0 : Int32) (h : wX4_mend_106 p1 Q M s0) : Gx l E mX4_mend (xRi Q) 106 M [none, none, none, none, none, none] [.int s0] := by
  unfold wX4_mend_106 at h
  exact Gx_iret (by decide +kernel) rfl rfl ⟨_, rfl, h⟩
def wX4_mend_101 (p1 : Int32) (Q : Int32 → xM → Prop) (M : xM) (a3 : Int32) : Prop :=
    wX4_mend_106 p1 Q M a3
set_option maxHeartbeats 4000000 in
set_option maxRecDepth 100000 in
theorem tX4_mend_101 {l : Launch} {E : xE} {p1 : Int32} {Q : Int32 → xM → Prop} (M : xM) (a3 : Int32) (h : wX4_mend_101 p1 Q M a3) : Gx l E mX4_mend (xRi Q) 101 M [none, none, none, some (.int a3), none, none] [] := by
  unfold wX4_mend_101 at h
  refine Gx_run (es := eX4_mend_101) (P := []) (M' := M) (L' := [none, none, none, some (.int a3), none, none]) (st' := [.int a3]) (pc' := 102) kX4_mend_101 rfl trivial rfl ?_
  refine Gx_goto (off := 4) (tgt := 106) (by decide +kernel) (by decide) ?_
  refine Gx_mask [false, false, false, false, false, false] (L' := [none, none, none, none, none, none]) rfl ?_
  exact tX4_mend_106  M a3 h
def wX4_mend_80 (p1 : Int32) (Q : Int32 → xM → Prop) (k31 : xM → Int32 → Int32 → Int32 → Prop) (M : xM) (a3 : Int32) (a4 : Int32) (s0 : Int32) : Prop :=
    k31 M s0 a3 (a4 + (1 : Int32))
set_option maxHeartbeats 4000000 in
set_option maxRecDepth 100000 in
theorem tX4_mend_80 {l : Launch} {E : xE} {p1 : Int32} {Q : Int32 → xM → Prop} {k31 : xM → Int32 → Int32 → Int32 → Prop} (hk31 : ∀ (M : xM) (a2 : Int32) (a3 : Int32) (a4 : Int32), k31 M a2 a3 a4 → Gx l E mX4_mend (xRi Q) 31 M [some (.ref 50), some (.int p1), some (.int a2), some (.int a3), some (.int a4), none] []) (M : xM) (a3 : Int32) (a4 : Int32) (s0 : Int32) (h : wX4_mend_80 p1 Q k31 M a3 a4 s0) : Gx l E mX4_mend (xRi Q) 80 M [some (.ref 50), some (.int p1), none, some (.int a3), some (.int a4), none] [.int s0] := by
  unfold wX4_mend_80 at h
  refine Gx_run (es := eX4_mend_80) (P := []) (M' := M) (L' := [some (.ref 50), some (.int p1), some (.int s0), some (.int a3), some (.int (a4 + (1 : Int32))), none]) (st' := []) (pc' := 84) kX4_mend_80 rfl trivial rfl ?_
  refine Gx_goto (off := -53) (tgt := 31) (by decide +kernel) (by decide) ?_
  refine Gx_mask [true, true, true, true, true, false] (L' := [some (.ref 50), some (.int p1), some (.int s0), some (.int a3), some (.int (a4 + (1 : Int32))), none]) rfl ?_
  exact hk31 M s0 a3 (a4 + (1 : Int32)) h
def wX4_mend_67 (p1 : Int32) (Q : Int32 → xM → Prop) (k31 : xM → Int32 → Int32 → Int32 → Prop) (M : xM) (a2 : Int32) (a4 : Int32) (a5 : Int32) (s0 : Int32) : Prop :=
    (((a2 ≤ a5) → (wX4_mend_80 p1 Q k31 M s0 a4 a2)) ∧ ((¬ a2 ≤ a5) → (wX4_mend_80 p1 Q k31 M s0 a4 a5)))
set_option maxHeartbeats 4000000 in
set_option maxRecDepth 100000 in
theorem tX4_mend_67 {l : Launch} {E : xE} {p1 : Int32} {Q : Int32 → xM → Prop} {k31 : xM → Int32 → Int32 → Int32 → Prop} (hk31 : ∀ (M : xM) (a2 : Int32) (a3 : Int32) (a4 : Int32), k31 M a2 a3 a4 → Gx l E mX4_mend (xRi Q) 31 M [some (.ref 50), some (.int p1), some (.int a2), some (.int a3), some (.int a4), none] []) (M : xM) (a2 : Int32) (a4 : Int32) (a5 : Int32) (s0 : Int32) (h : wX4_mend_67 p1 Q k31 M a2 a4 a5 s0) : Gx l E mX4_mend (xRi Q) 67 M [some (.ref 50), some (.int p1), some (.int a2), none, some (.int a4), some (.int a5)] [.int s0] := by
  unfold wX4_mend_67 at h
  refine Gx_run (es := eX4_mend_67) (P := []) (M' := M) (L' := [some (.ref 50), some (.int p1), some (.int a2), some (.int s0), some (.int a4), some (.int a5)]) (st' := [.int a2, .int a5]) (pc' := 71) kX4_mend_67 rfl trivial rfl ?_
  refine Gx_icmp_ge (off := 8) (tgt := 79) (by decide +kernel) (by decide) (fun z => ?_) (fun z => ?_)
  · have h := h.1 z
    refine Gx_run (es := eX4_mend_79) (P := []) (M' := M) (L' := [some (.ref 50), some (.int p1), some (.int a2), some (.int s0), some (.int a4), some (.int a5)]) (st' := [.int a2]) (pc' := 80) kX4_mend_79 rfl trivial rfl ?_
    refine Gx_mask [true, true, false, true, true, false] (L' := [some (.ref 50), some (.int p1), none, some (.int s0), some (.int a4), none]) rfl ?_
    exact tX4_mend_80  hk31 M s0 a4 a2 h
  · have h := h.2 z
    refine Gx_run (es := eX4_mend_74) (P := []) (M' := M) (L' := [some (.ref 50), some (.int p1), some (.int a2), some (.int s0), some (.int a4), some (.int a5)]) (st' := [.int a5]) (pc' := 76) kX4_mend_74 rfl trivial rfl ?_
    refine Gx_goto (off := 4) (tgt := 80) (by decide +kernel) (by decide) ?_
    refine Gx_mask [true, true, false, true, true, false] (L' := [some (.ref 50), some (.int p1), none, some (.int s0), some (.int a4), none]) rfl ?_
    exact tX4_mend_80  hk31 M s0 a4 a5 h
def lX4_mend_31 (p1 : Int32) (Q : Int32 → xM → Prop) : Nat → xM → Int32 → Int32 → Int32 → Prop
  | 0 => fun _ _ _ _ => False
  | n + 1 => let k31 := lX4_mend_31 p1 Q n; fun M a2 a3 a4 =>
    ((((10 : Int32) ≤ a4) → (wX4_goesBack M (fun M88 => (((a3 = (-9 : Int32)) → (wX4_mend_101 p1 Q M88 a3)) ∧ ((¬ a3 = (-9 : Int32)) → ((((¬ p1 = 0) → (wX4_mend_106 p1 Q M88 a2)) ∧ ((p1 = 0) → (wX4_mend_101 p1 Q M88 a3))))))))) ∧ ((¬ (10 : Int32) ≤ a4) → (wX4_goesBack M (fun M39 => wX4_wipes M39 a4 (0 : Int32) (fun M46 => wX4_checks M46 (fun r50 M50 => (((a2 ≤ r50) → (wX4_mend_67 p1 Q k31 M50 a2 a4 r50 a3)) ∧ ((¬ a2 ≤ r50) → (wX4_mend_67 p1 Q k31 M50 a2 a4 r50 a4)))))))))
set_option maxHeartbeats 4000000 in
set_option maxRecDepth 100000 in
theorem tX4_mend_31 {l : Launch} {E : xE} {p1 : Int32} {Q : Int32 → xM → Prop} (n : Nat) : ∀ (M : xM) (a2 : Int32) (a3 : Int32) (a4 : Int32), lX4_mend_31 p1 Q n M a2 a3 a4 → Gx l E mX4_mend (xRi Q) 31 M [some (.ref 50), some (.int p1), some (.int a2), some (.int a3), some (.int a4), none] [] := by
  induction n with
  | zero => intro M a2 a3 a4 h; exact h.elim
  | succ n hk31 =>
      intro M a2 a3 a4 h
      unfold lX4_mend_31 at h
      dsimp only at h
      refine Gx_run (es := eX4_mend_31) (P := []) (M' := M) (L' := [some (.ref 50), some (.int p1), some (.int a2), some (.int a3), some (.int a4), none]) (st' := [.int (10 : Int32), .int a4]) (pc' := 35) kX4_mend_31 rfl trivial rfl ?_
      refine Gx_icmp_ge (off := 52) (tgt := 87) (by decide +kernel) (by decide) (fun z => ?_) (fun z => ?_)
      · have h := h.1 z
        refine Gx_run (es := eX4_mend_87) (P := []) (M' := M) (L' := [some (.ref 50), some (.int p1), some (.int a2), some (.int a3), some (.int a4), none]) (st' := [.ref 50]) (pc' := 88) kX4_mend_87 rfl trivial rfl ?_
        refine Gx_callV (As := []) (by decide +kernel) ml_4_199 okX4_goesBack mvX4_goesBack rfl (by decide) (Nat.le_of_ble_eq_true rfl) rfl rfl rfl (tX4_goesBack h) (fun rr M88 qq => ?_)
        obtain ⟨rfl, h⟩ := qq
        show Gx l E mX4_mend _ 91 M88 [some (.ref 50), some (.int p1), some (.int a2), some (.int a3), some (.int a4), none] []
        refine Gx_run (es := eX4_mend_91) (P := []) (M' := M88) (L' := [some (.ref 50), some (.int p1), some (.int a2), some (.int a3), some (.int a4), none]) (st' := [.int (-9 : Int32), .int a3]) (pc' := 94) kX4_mend_91 rfl trivial rfl ?_
        refine Gx_icmp_eq (off := 7) (tgt := 101) (by decide +kernel) (by decide) (fun z => ?_) (fun z => ?_)
        · have h := h.1 z
          refine Gx_mask [false, false, false, true, false, false] (L' := [none, none, none, some (.int a3), none, none]) rfl ?_
          exact tX4_mend_101  M88 a3 h
        · have h := h.2 z
          refine Gx_run (es := eX4_mend_97) (P := []) (M' := M88) (L' := [some (.ref 50), some (.int p1), some (.int a2), some (.int a3), some (.int a4), none]) (st' := [.int p1]) (pc' := 98) kX4_mend_97 rfl trivial rfl ?_
          refine Gx_if_ne (off := 7) (tgt := 105) (by decide +kernel) (by decide) (fun z => ?_) (fun z => ?_)
          · have h := h.1 z
            refine Gx_run (es := eX4_mend_105) (P := []) (M' := M88) (L' := [some (.ref 50), some (.int p1), some (.int a2), some (.int a3), some (.int a4), none]) (st' := [.int a2]) (pc' := 106) kX4_mend_105 rfl trivial rfl ?_
            refine Gx_mask [false, false, false, false, false, false] (L' := [none, none, none, none, none, none]) rfl ?_
            exact tX4_mend_106  M88 a2 h
          · have h := h.2 z
            refine Gx_mask [false, false, false, true, false, false] (L' := [none, none, none, some (.int a3), none, none]) rfl ?_
            exact tX4_mend_101  M88 a3 h
      · have h := h.2 z
        refine Gx_run (es := eX4_mend_38) (P := []) (M' := M) (L' := [some (.ref 50), some (.int p1), some (.int a2), some (.int a3), some (.int a4), none]) (st' := [.ref 50]) (pc' := 39) kX4_mend_38 rfl trivial rfl ?_
        refine Gx_callV (As := []) (by decide +kernel) ml_4_199 okX4_goesBack mvX4_goesBack rfl (by decide) (Nat.le_of_ble_eq_true rfl) rfl rfl rfl (tX4_goesBack h) (fun rr M39 qq => ?_)
        obtain ⟨rfl, h⟩ := qq
        show Gx l E mX4_mend _ 42 M39 [some (.ref 50), some (.int p1), some (.int a2), some (.int a3), some (.int a4), none] []
        refine Gx_run (es := eX4_mend_42) (P := []) (M' := M39) (L' := [some (.ref 50), some (.int p1), some (.int a2), some (.int a3), some (.int a4), none]) (st' := [.int (0 : Int32), .int a4, .ref 50]) (pc' := 46) kX4_mend_42 rfl trivial rfl ?_
        refine Gx_callV (As := [.int a4, .int (0 : Int32)]) (by decide +kernel) ml_4_161 okX4_wipes mvX4_wipes rfl (by decide) (Nat.le_of_ble_eq_true rfl) rfl rfl rfl (tX4_wipes h) (fun rr M46 qq => ?_)
        obtain ⟨rfl, h⟩ := qq
        show Gx l E mX4_mend _ 49 M46 [some (.ref 50), some (.int p1), some (.int a2), some (.int a3), some (.int a4), none] []
        refine Gx_run (es := eX4_mend_49) (P := []) (M' := M46) (L' := [some (.ref 50), some (.int p1), some (.int a2), some (.int a3), some (.int a4), none]) (st' := [.ref 50]) (pc' := 50) kX4_mend_49 rfl trivial rfl ?_
        refine Gx_callV (As := []) (by decide +kernel) ml_4_100 okX4_checks mvX4_checks rfl (by decide) (Nat.le_of_ble_eq_true rfl) rfl rfl rfl (tX4_checks h) (fun rr M50 qq => ?_)
        obtain ⟨r50, rfl, h⟩ := qq
        show Gx l E mX4_mend _ 53 M50 [some (.ref 50), some (.int p1), some (.int a2), some (.int a3), some (.int a4), none] [.int r50]
        refine Gx_run (es := eX4_mend_53) (P := []) (M' := M50) (L' := [some (.ref 50), some (.int p1), some (.int a2), some (.int a3), some (.int a4), some (.int r50)]) (st' := [.int a2, .int r50]) (pc' := 58) kX4_mend_53 rfl trivial rfl ?_
        refine Gx_icmp_ge (off := 8) (tgt := 66) (by decide +kernel) (by decide) (fun z => ?_) (fun z => ?_)
        · have h := h.1 z
          refine Gx_run (es := eX4_mend_66) (P := []) (M' := M50) (L' := [some (.ref 50), some (.int p1), some (.int a2), some (.int a3), some (.int a4), some (.int r50)]) (st' := [.int a3]) (pc' := 67) kX4_mend_66 rfl trivial rfl ?_
          refine Gx_mask [true, true, true, false, true, true] (L' := [some (.ref 50), some (.int p1), some (.int a2), none, some (.int a4), some (.int r50)]) rfl ?_
          exact tX4_mend_67  hk31 M50 a2 a4 r50 a3 h
        · have h := h.2 z
          refine Gx_run (es := eX4_mend_61) (P := []) (M' := M50) (L' := [some (.ref 50), some (.int p1), some (.int a2), some (.int a3), some (.int a4), some (.int r50)]) (st' := [.int a4]) (pc' := 63) kX4_mend_61 rfl trivial rfl ?_
          refine Gx_goto (off := 4) (tgt := 67) (by decide +kernel) (by decide) ?_
          refine Gx_mask [true, true, true, false, true, true] (L' := [some (.ref 50), some (.int p1), some (.int a2), none, some (.int a4), some (.int r50)]) rfl ?_
          exact tX4_mend_67  hk31 M50 a2 a4 r50 a4 h
def wX4_mend (M : xM) (p1 : Int32) (Q : Int32 → xM → Prop) : Prop :=
    wX4_in M p1 (0 : Int32) (1 : Int32) (fun r3 M3 => (((¬ r3 = 0) → (wX4_keeps M3 (fun M17 => wX4_checks M17 (fun r21 M21 => (∃ n : Nat, lX4_mend_31 p1 Q n M21 r21 (-9 : Int32) (1 : Int32)))))) ∧ ((r3 = 0) → (wX4_refused M3 (-2 : Int32) (fun r12 M12 => Q r12 M12)))))
set_option maxHeartbeats 4000000 in
set_option maxRecDepth 100000 in
theorem tX4_mend {l : Launch} {E : xE} {M : xM} {p1 : Int32} {Q : Int32 → xM → Prop} (h : wX4_mend M p1 Q) : Ct l E mX4_mend [.ref 50, .int p1] M (xRi Q) := by
  refine Ct_of (by decide +kernel) rfl (Nat.le_of_ble_eq_true rfl) ?_
  unfold wX4_mend at h
  show Gx l E mX4_mend (xRi Q) 0 M [some (.ref 50), some (.int p1), none, none, none, none] []
  refine Gx_run (es := eX4_mend_0) (P := []) (M' := M) (L' := [some (.ref 50), some (.int p1), none, none, none, none]) (st' := [.int (1 : Int32), .int (0 : Int32), .int p1]) (pc' := 3) kX4_mend_0 rfl trivial rfl ?_
  refine Gx_callS (As := [.int p1, .int (0 : Int32), .int (1 : Int32)]) (by decide +kernel) ml_4_43 okX4_in mvX4_in rfl (by decide) (Nat.le_of_ble_eq_true rfl) (tX4_in h) (fun rr M3 qq => ?_)
  obtain ⟨r3, rfl, h⟩ := qq
  show Gx l E mX4_mend _ 6 M3 [some (.ref 50), some (.int p1), none, none, none, none] [.int r3]
  refine Gx_if_ne (off := 10) (tgt := 16) (by decide +kernel) (by decide) (fun z => ?_) (fun z => ?_)
  · have h := h.1 z
    refine Gx_run (es := eX4_mend_16) (P := []) (M' := M3) (L' := [some (.ref 50), some (.int p1), none, none, none, none]) (st' := [.ref 50]) (pc' := 17) kX4_mend_16 rfl trivial rfl ?_
    refine Gx_callV (As := []) (by decide +kernel) ml_4_196 okX4_keeps mvX4_keeps rfl (by decide) (Nat.le_of_ble_eq_true rfl) rfl rfl rfl (tX4_keeps h) (fun rr M17 qq => ?_)
    obtain ⟨rfl, h⟩ := qq
    show Gx l E mX4_mend _ 20 M17 [some (.ref 50), some (.int p1), none, none, none, none] []
    refine Gx_run (es := eX4_mend_20) (P := []) (M' := M17) (L' := [some (.ref 50), some (.int p1), none, none, none, none]) (st' := [.ref 50]) (pc' := 21) kX4_mend_20 rfl trivial rfl ?_
    refine Gx_callV (As := []) (by decide +kernel) ml_4_100 okX4_checks mvX4_checks rfl (by decide) (Nat.le_of_ble_eq_true rfl) rfl rfl rfl (tX4_checks h) (fun rr M21 qq => ?_)
    obtain ⟨r21, rfl, h⟩ := qq
    show Gx l E mX4_mend _ 24 M21 [some (.ref 50), some (.int p1), none, none, none, none] [.int r21]
    refine Gx_run (es := eX4_mend_24) (P := []) (M' := M21) (L' := [some (.ref 50), some (.int p1), some (.int r21), some (.int (-9 : Int32)), some (.int (1 : Int32)), none]) (st' := []) (pc' := 31) kX4_mend_24 rfl trivial rfl ?_
    refine Gx_mask [true, true, true, true, true, false] (L' := [some (.ref 50), some (.int p1), some (.int r21), some (.int (-9 : Int32)), some (.int (1 : Int32)), none]) rfl ?_
    obtain ⟨n, h⟩ := h
    exact tX4_mend_31  n M21 r21 (-9 : Int32) (1 : Int32) h
  · have h := h.2 z
    refine Gx_run (es := eX4_mend_9) (P := []) (M' := M3) (L' := [some (.ref 50), some (.int p1), none, none, none, none]) (st' := [.int (-2 : Int32), .ref 50]) (pc' := 12) kX4_mend_9 rfl trivial rfl ?_
    refine Gx_callV (As := [.int (-2 : Int32)]) (by decide +kernel) ml_4_55 okX4_refused mvX4_refused rfl (by decide) (Nat.le_of_ble_eq_true rfl) rfl rfl rfl (tX4_refused h) (fun rr M12 qq => ?_)
    obtain ⟨r12, rfl, h⟩ := qq
    show Gx l E mX4_mend _ 15 M12 [some (.ref 50), some (.int p1), none, none, none, none] [.int r12]
    exact Gx_iret (by decide +kernel) rfl rfl ⟨_, rfl, h⟩
def eX4_pointerThen_0 : List xI := [(.iload_n 1, 1, 0, 0, 0)]
theorem kX4_pointerThen_0 : xcode (xmb mX4_pointerThen) (xmo mX4_pointerThen) 0 eX4_pointerThen_0 = true := by decide +kernel
def eX4_pointerThen_16 : List xI := [(.aload_n 0, 1, 0, 0, 0), (.iconst (-1), 1, 0, 0, (-1))]
theorem kX4_pointerThen_16 : xcode (xmb mX4_pointerThen) (xmo mX4_pointerThen) 16 eX4_pointerThen_16 = true := by decide +kernel
def eX4_pointerThen_7 : List xI := [(.iload_n 2, 1, 0, 0, 0), (.iconst 0, 1, 0, 0, (0)), (.iconst 2, 1, 0, 0, (2))]
theorem kX4_pointerThen_7 : xcode (xmb mX4_pointerThen) (xmo mX4_pointerThen) 7 eX4_pointerThen_7 = true := by decide +kernel
def eX4_pointerThen_22 : List xI := [(.aload_n 0, 1, 0, 0, 0)]
theorem kX4_pointerThen_22 : xcode (xmb mX4_pointerThen) (xmo mX4_pointerThen) 22 eX4_pointerThen_22 = true := by decide +kernel
def eX4_pointerThen_26 : List xI := [(.aload_n 0, 1, 0, 0, 0)]
theorem kX4_pointerThen_26 : xcode (xmb mX4_pointerThen) (xmo mX4_pointerThen) 26 eX4_pointerThen_26 = true := by decide +kernel
def eX4_pointerThen_30 : List xI := [(.pop, 1, 0, 0, 0), (.aload_n 0, 1, 0, 0, 0), (.iload_n 1, 1, 0, 0, 0), (.iload_n 2, 1, 0, 0, 0)]
theorem kX4_pointerThen_30 : xcode (xmb mX4_pointerThen) (xmo mX4_pointerThen) 30 eX4_pointerThen_30 = true := by decide +kernel
def eX4_pointerThen_37 : List xI := [(.istore_n 3, 1, 0, 0, 0), (.aload_n 0, 1, 0, 0, 0)]
theorem kX4_pointerThen_37 : xcode (xmb mX4_pointerThen) (xmo mX4_pointerThen) 37 eX4_pointerThen_37 = true := by decide +kernel
def eX4_pointerThen_42 : List xI := [(.iload_n 3, 1, 0, 0, 0)]
theorem kX4_pointerThen_42 : xcode (xmb mX4_pointerThen) (xmo mX4_pointerThen) 42 eX4_pointerThen_42 = true := by decide +kernel
def wX4_pointerThen_16 (p1 : Int32) (p2 : Int32) (Q : Int32 → xM → Prop) (M : xM) : Prop :=
    wX4_refused M (-1 : Int32) (fun r18 M18 => Q r18 M18)
set_option maxHeartbeats 4000000 in
set_option maxRecDepth 100000 in
theorem tX4_pointerThen_16 {l : Launch} {E : xE} {p1 : Int32} {p2 : Int32} {Q : Int32 → xM → Prop} (M : xM) (h : wX4_pointerThen_16 p1 p2 Q M ) : Gx l E mX4_pointerThen (xRi Q) 16 M [some (.ref 50), none, none, none] [] := by
  unfold wX4_pointerThen_16 at h
  refine Gx_run (es := eX4_pointerThen_16) (P := []) (M' := M) (L' := [some (.ref 50), none, none, none]) (st' := [.int (-1 : Int32), .ref 50]) (pc' := 18) kX4_pointerThen_16 rfl trivial rfl ?_
  refine Gx_callV (As := [.int (-1 : Int32)]) (by decide +kernel) ml_4_55 okX4_refused mvX4_refused rfl (by decide) (Nat.le_of_ble_eq_true rfl) rfl rfl rfl (tX4_refused h) (fun rr M18 qq => ?_)
  obtain ⟨r18, rfl, h⟩ := qq
  show Gx l E mX4_pointerThen _ 21 M18 [some (.ref 50), none, none, none] [.int r18]
  exact Gx_iret (by decide +kernel) rfl rfl ⟨_, rfl, h⟩
def wX4_pointerThen (M : xM) (p1 : Int32) (p2 : Int32) (Q : Int32 → xM → Prop) : Prop :=
    wX4_isInode M p1 (fun r1 M1 => (((r1 = 0) → (wX4_pointerThen_16 p1 p2 Q M1)) ∧ ((¬ r1 = 0) → (wX4_in M1 p2 (0 : Int32) (2 : Int32) (fun r10 M10 => (((¬ r10 = 0) → (wX4_keeps M10 (fun M23 => wX4_checks M23 (fun r27 M27 => wX4_pointerOf M27 p1 p2 (fun r34 M34 => wX4_goesBack M34 (fun M39 => Q r34 M39)))))) ∧ ((r10 = 0) → (wX4_pointerThen_16 p1 p2 Q M10))))))))
set_option maxHeartbeats 4000000 in
set_option maxRecDepth 100000 in
theorem tX4_pointerThen {l : Launch} {E : xE} {M : xM} {p1 : Int32} {p2 : Int32} {Q : Int32 → xM → Prop} (h : wX4_pointerThen M p1 p2 Q) : Ct l E mX4_pointerThen [.ref 50, .int p1, .int p2] M (xRi Q) := by
  refine Ct_of (by decide +kernel) rfl (Nat.le_of_ble_eq_true rfl) ?_
  unfold wX4_pointerThen at h
  show Gx l E mX4_pointerThen (xRi Q) 0 M [some (.ref 50), some (.int p1), some (.int p2), none] []
  refine Gx_run (es := eX4_pointerThen_0) (P := []) (M' := M) (L' := [some (.ref 50), some (.int p1), some (.int p2), none]) (st' := [.int p1]) (pc' := 1) kX4_pointerThen_0 rfl trivial rfl ?_
  refine Gx_callS (As := [.int p1]) (by decide +kernel) ml_4_111 okX4_isInode mvX4_isInode rfl (by decide) (Nat.le_of_ble_eq_true rfl) (tX4_isInode h) (fun rr M1 qq => ?_)
  obtain ⟨r1, rfl, h⟩ := qq
  show Gx l E mX4_pointerThen _ 4 M1 [some (.ref 50), some (.int p1), some (.int p2), none] [.int r1]
  refine Gx_if_eq (off := 12) (tgt := 16) (by decide +kernel) (by decide) (fun z => ?_) (fun z => ?_)
  · have h := h.1 z
    refine Gx_mask [true, false, false, false] (L' := [some (.ref 50), none, none, none]) rfl ?_
    exact tX4_pointerThen_16  M1 h
  · have h := h.2 z
    refine Gx_run (es := eX4_pointerThen_7) (P := []) (M' := M1) (L' := [some (.ref 50), some (.int p1), some (.int p2), none]) (st' := [.int (2 : Int32), .int (0 : Int32), .int p2]) (pc' := 10) kX4_pointerThen_7 rfl trivial rfl ?_
    refine Gx_callS (As := [.int p2, .int (0 : Int32), .int (2 : Int32)]) (by decide +kernel) ml_4_43 okX4_in mvX4_in rfl (by decide) (Nat.le_of_ble_eq_true rfl) (tX4_in h) (fun rr M10 qq => ?_)
    obtain ⟨r10, rfl, h⟩ := qq
    show Gx l E mX4_pointerThen _ 13 M10 [some (.ref 50), some (.int p1), some (.int p2), none] [.int r10]
    refine Gx_if_ne (off := 9) (tgt := 22) (by decide +kernel) (by decide) (fun z => ?_) (fun z => ?_)
    · have h := h.1 z
      refine Gx_run (es := eX4_pointerThen_22) (P := []) (M' := M10) (L' := [some (.ref 50), some (.int p1), some (.int p2), none]) (st' := [.ref 50]) (pc' := 23) kX4_pointerThen_22 rfl trivial rfl ?_
      refine Gx_callV (As := []) (by decide +kernel) ml_4_196 okX4_keeps mvX4_keeps rfl (by decide) (Nat.le_of_ble_eq_true rfl) rfl rfl rfl (tX4_keeps h) (fun rr M23 qq => ?_)
      obtain ⟨rfl, h⟩ := qq
      show Gx l E mX4_pointerThen _ 26 M23 [some (.ref 50), some (.int p1), some (.int p2), none] []
      refine Gx_run (es := eX4_pointerThen_26) (P := []) (M' := M23) (L' := [some (.ref 50), some (.int p1), some (.int p2), none]) (st' := [.ref 50]) (pc' := 27) kX4_pointerThen_26 rfl trivial rfl ?_
      refine Gx_callV (As := []) (by decide +kernel) ml_4_100 okX4_checks mvX4_checks rfl (by decide) (Nat.le_of_ble_eq_true rfl) rfl rfl rfl (tX4_checks h) (fun rr M27 qq => ?_)
      obtain ⟨r27, rfl, h⟩ := qq
      show Gx l E mX4_pointerThen _ 30 M27 [some (.ref 50), some (.int p1), some (.int p2), none] [.int r27]
      refine Gx_run (es := eX4_pointerThen_30) (P := []) (M' := M27) (L' := [some (.ref 50), some (.int p1), some (.int p2), none]) (st' := [.int p2, .int p1, .ref 50]) (pc' := 34) kX4_pointerThen_30 rfl trivial rfl ?_
      refine Gx_callV (As := [.int p1, .int p2]) (by decide +kernel) ml_4_121 okX4_pointerOf mvX4_pointerOf rfl (by decide) (Nat.le_of_ble_eq_true rfl) rfl rfl rfl (tX4_pointerOf h) (fun rr M34 qq => ?_)
      obtain ⟨r34, rfl, h⟩ := qq
      show Gx l E mX4_pointerThen _ 37 M34 [some (.ref 50), some (.int p1), some (.int p2), none] [.int r34]
      refine Gx_run (es := eX4_pointerThen_37) (P := []) (M' := M34) (L' := [some (.ref 50), some (.int p1), some (.int p2), some (.int r34)]) (st' := [.ref 50]) (pc' := 39) kX4_pointerThen_37 rfl trivial rfl ?_
      refine Gx_callV (As := []) (by decide +kernel) ml_4_199 okX4_goesBack mvX4_goesBack rfl (by decide) (Nat.le_of_ble_eq_true rfl) rfl rfl rfl (tX4_goesBack h) (fun rr M39 qq => ?_)
      obtain ⟨rfl, h⟩ := qq
      show Gx l E mX4_pointerThen _ 42 M39 [some (.ref 50), some (.int p1), some (.int p2), some (.int r34)] []
      refine Gx_run (es := eX4_pointerThen_42) (P := []) (M' := M39) (L' := [some (.ref 50), some (.int p1), some (.int p2), some (.int r34)]) (st' := [.int r34]) (pc' := 43) kX4_pointerThen_42 rfl trivial rfl ?_
      exact Gx_iret (by decide +kernel) rfl rfl ⟨_, rfl, h⟩
    · have h := h.2 z
      refine Gx_mask [true, false, false, false] (L' := [some (.ref 50), none, none, none]) rfl ?_
      exact tX4_pointerThen_16  M10 h
def eX4_second_0 : List xI := [(.aload_n 0, 1, 0, 0, 0)]
theorem kX4_second_0 : xcode (xmb mX4_second) (xmo mX4_second) 0 eX4_second_0 = true := by decide +kernel
def eX4_second_4 : List xI := [(.aload_n 0, 1, 0, 0, 0)]
theorem kX4_second_4 : xcode (xmb mX4_second) (xmo mX4_second) 4 eX4_second_4 = true := by decide +kernel
def eX4_second_8 : List xI := [(.pop, 1, 0, 0, 0), (.aload_n 0, 1, 0, 0, 0)]
theorem kX4_second_8 : xcode (xmb mX4_second) (xmo mX4_second) 8 eX4_second_8 = true := by decide +kernel
def eX4_second_13 : List xI := [(.istore_n 1, 1, 0, 0, 0), (.aload_n 0, 1, 0, 0, 0)]
theorem kX4_second_13 : xcode (xmb mX4_second) (xmo mX4_second) 13 eX4_second_13 = true := by decide +kernel
def eX4_second_18 : List xI := [(.iload_n 1, 1, 0, 0, 0)]
theorem kX4_second_18 : xcode (xmb mX4_second) (xmo mX4_second) 18 eX4_second_18 = true := by decide +kernel
def wX4_second (M : xM) (Q : Int32 → xM → Prop) : Prop :=
    wX4_keeps M (fun M1 => wX4_checks M1 (fun r5 M5 => wX4_checks M5 (fun r10 M10 => wX4_goesBack M10 (fun M15 => Q r10 M15))))
set_option maxHeartbeats 4000000 in
set_option maxRecDepth 100000 in
theorem tX4_second {l : Launch} {E : xE} {M : xM} {Q : Int32 → xM → Prop} (h : wX4_second M  Q) : Ct l E mX4_second [.ref 50] M (xRi Q) := by
  refine Ct_of (by decide +kernel) rfl (Nat.le_of_ble_eq_true rfl) ?_
  unfold wX4_second at h
  show Gx l E mX4_second (xRi Q) 0 M [some (.ref 50), none] []
  refine Gx_run (es := eX4_second_0) (P := []) (M' := M) (L' := [some (.ref 50), none]) (st' := [.ref 50]) (pc' := 1) kX4_second_0 rfl trivial rfl ?_
  refine Gx_callV (As := []) (by decide +kernel) ml_4_196 okX4_keeps mvX4_keeps rfl (by decide) (Nat.le_of_ble_eq_true rfl) rfl rfl rfl (tX4_keeps h) (fun rr M1 qq => ?_)
  obtain ⟨rfl, h⟩ := qq
  show Gx l E mX4_second _ 4 M1 [some (.ref 50), none] []
  refine Gx_run (es := eX4_second_4) (P := []) (M' := M1) (L' := [some (.ref 50), none]) (st' := [.ref 50]) (pc' := 5) kX4_second_4 rfl trivial rfl ?_
  refine Gx_callV (As := []) (by decide +kernel) ml_4_100 okX4_checks mvX4_checks rfl (by decide) (Nat.le_of_ble_eq_true rfl) rfl rfl rfl (tX4_checks h) (fun rr M5 qq => ?_)
  obtain ⟨r5, rfl, h⟩ := qq
  show Gx l E mX4_second _ 8 M5 [some (.ref 50), none] [.int r5]
  refine Gx_run (es := eX4_second_8) (P := []) (M' := M5) (L' := [some (.ref 50), none]) (st' := [.ref 50]) (pc' := 10) kX4_second_8 rfl trivial rfl ?_
  refine Gx_callV (As := []) (by decide +kernel) ml_4_100 okX4_checks mvX4_checks rfl (by decide) (Nat.le_of_ble_eq_true rfl) rfl rfl rfl (tX4_checks h) (fun rr M10 qq => ?_)
  obtain ⟨r10, rfl, h⟩ := qq
  show Gx l E mX4_second _ 13 M10 [some (.ref 50), none] [.int r10]
  refine Gx_run (es := eX4_second_13) (P := []) (M' := M10) (L' := [some (.ref 50), some (.int r10)]) (st' := [.ref 50]) (pc' := 15) kX4_second_13 rfl trivial rfl ?_
  refine Gx_callV (As := []) (by decide +kernel) ml_4_199 okX4_goesBack mvX4_goesBack rfl (by decide) (Nat.le_of_ble_eq_true rfl) rfl rfl rfl (tX4_goesBack h) (fun rr M15 qq => ?_)
  obtain ⟨rfl, h⟩ := qq
  show Gx l E mX4_second _ 18 M15 [some (.ref 50), some (.int r10)] []
  refine Gx_run (es := eX4_second_18) (P := []) (M' := M15) (L' := [some (.ref 50), some (.int r10)]) (st' := [.int r10]) (pc' := 19) kX4_second_18 rfl trivial rfl ?_
  exact Gx_iret (by decide +kernel) rfl rfl ⟨_, rfl, h⟩
def eX4_slotThen_0 : List xI := [(.iload_n 1, 1, 0, 0, 0)]
theorem kX4_slotThen_0 : xcode (xmb mX4_slotThen) (xmo mX4_slotThen) 0 eX4_slotThen_0 = true := by decide +kernel
def eX4_slotThen_16 : List xI := [(.aload_n 0, 1, 0, 0, 0), (.iconst (-1), 1, 0, 0, (-1))]
theorem kX4_slotThen_16 : xcode (xmb mX4_slotThen) (xmo mX4_slotThen) 16 eX4_slotThen_16 = true := by decide +kernel
def eX4_slotThen_7 : List xI := [(.iload_n 2, 1, 0, 0, 0), (.iconst 0, 1, 0, 0, (0)), (.iconst 5, 1, 0, 0, (5))]
theorem kX4_slotThen_7 : xcode (xmb mX4_slotThen) (xmo mX4_slotThen) 7 eX4_slotThen_7 = true := by decide +kernel
def eX4_slotThen_22 : List xI := [(.aload_n 0, 1, 0, 0, 0)]
theorem kX4_slotThen_22 : xcode (xmb mX4_slotThen) (xmo mX4_slotThen) 22 eX4_slotThen_22 = true := by decide +kernel
def eX4_slotThen_26 : List xI := [(.aload_n 0, 1, 0, 0, 0)]
theorem kX4_slotThen_26 : xcode (xmb mX4_slotThen) (xmo mX4_slotThen) 26 eX4_slotThen_26 = true := by decide +kernel
def eX4_slotThen_30 : List xI := [(.pop, 1, 0, 0, 0), (.aload_n 0, 1, 0, 0, 0), (.iload_n 1, 1, 0, 0, 0), (.iload_n 2, 1, 0, 0, 0)]
theorem kX4_slotThen_30 : xcode (xmb mX4_slotThen) (xmo mX4_slotThen) 30 eX4_slotThen_30 = true := by decide +kernel
def eX4_slotThen_37 : List xI := [(.istore_n 3, 1, 0, 0, 0), (.aload_n 0, 1, 0, 0, 0)]
theorem kX4_slotThen_37 : xcode (xmb mX4_slotThen) (xmo mX4_slotThen) 37 eX4_slotThen_37 = true := by decide +kernel
def eX4_slotThen_42 : List xI := [(.iload_n 3, 1, 0, 0, 0)]
theorem kX4_slotThen_42 : xcode (xmb mX4_slotThen) (xmo mX4_slotThen) 42 eX4_slotThen_42 = true := by decide +kernel
def wX4_slotThen_16 (p1 : Int32) (p2 : Int32) (Q : Int32 → xM → Prop) (M : xM) : Prop :=
    wX4_refused M (-1 : Int32) (fun r18 M18 => Q r18 M18)
set_option maxHeartbeats 4000000 in
set_option maxRecDepth 100000 in
theorem tX4_slotThen_16 {l : Launch} {E : xE} {p1 : Int32} {p2 : Int32} {Q : Int32 → xM → Prop} (M : xM) (h : wX4_slotThen_16 p1 p2 Q M ) : Gx l E mX4_slotThen (xRi Q) 16 M [some (.ref 50), none, none, none] [] := by
  unfold wX4_slotThen_16 at h
  refine Gx_run (es := eX4_slotThen_16) (P := []) (M' := M) (L' := [some (.ref 50), none, none, none]) (st' := [.int (-1 : Int32), .ref 50]) (pc' := 18) kX4_slotThen_16 rfl trivial rfl ?_
  refine Gx_callV (As := [.int (-1 : Int32)]) (by decide +kernel) ml_4_55 okX4_refused mvX4_refused rfl (by decide) (Nat.le_of_ble_eq_true rfl) rfl rfl rfl (tX4_refused h) (fun rr M18 qq => ?_)
  obtain ⟨r18, rfl, h⟩ := qq
  show Gx l E mX4_slotThen _ 21 M18 [some (.ref 50), none, none, none] [.int r18]
  exact Gx_iret (by decide +kernel) rfl rfl ⟨_, rfl, h⟩
def wX4_slotThen (M : xM) (p1 : Int32) (p2 : Int32) (Q : Int32 → xM → Prop) : Prop :=
    wX4_isInode M p1 (fun r1 M1 => (((r1 = 0) → (wX4_slotThen_16 p1 p2 Q M1)) ∧ ((¬ r1 = 0) → (wX4_in M1 p2 (0 : Int32) (5 : Int32) (fun r10 M10 => (((¬ r10 = 0) → (wX4_keeps M10 (fun M23 => wX4_checks M23 (fun r27 M27 => wX4_slotOf M27 p1 p2 (fun r34 M34 => wX4_goesBack M34 (fun M39 => Q r34 M39)))))) ∧ ((r10 = 0) → (wX4_slotThen_16 p1 p2 Q M10))))))))
set_option maxHeartbeats 4000000 in
set_option maxRecDepth 100000 in
theorem tX4_slotThen {l : Launch} {E : xE} {M : xM} {p1 : Int32} {p2 : Int32} {Q : Int32 → xM → Prop} (h : wX4_slotThen M p1 p2 Q) : Ct l E mX4_slotThen [.ref 50, .int p1, .int p2] M (xRi Q) := by
  refine Ct_of (by decide +kernel) rfl (Nat.le_of_ble_eq_true rfl) ?_
  unfold wX4_slotThen at h
  show Gx l E mX4_slotThen (xRi Q) 0 M [some (.ref 50), some (.int p1), some (.int p2), none] []
  refine Gx_run (es := eX4_slotThen_0) (P := []) (M' := M) (L' := [some (.ref 50), some (.int p1), some (.int p2), none]) (st' := [.int p1]) (pc' := 1) kX4_slotThen_0 rfl trivial rfl ?_
  refine Gx_callS (As := [.int p1]) (by decide +kernel) ml_4_111 okX4_isInode mvX4_isInode rfl (by decide) (Nat.le_of_ble_eq_true rfl) (tX4_isInode h) (fun rr M1 qq => ?_)
  obtain ⟨r1, rfl, h⟩ := qq
  show Gx l E mX4_slotThen _ 4 M1 [some (.ref 50), some (.int p1), some (.int p2), none] [.int r1]
  refine Gx_if_eq (off := 12) (tgt := 16) (by decide +kernel) (by decide) (fun z => ?_) (fun z => ?_)
  · have h := h.1 z
    refine Gx_mask [true, false, false, false] (L' := [some (.ref 50), none, none, none]) rfl ?_
    exact tX4_slotThen_16  M1 h
  · have h := h.2 z
    refine Gx_run (es := eX4_slotThen_7) (P := []) (M' := M1) (L' := [some (.ref 50), some (.int p1), some (.int p2), none]) (st' := [.int (5 : Int32), .int (0 : Int32), .int p2]) (pc' := 10) kX4_slotThen_7 rfl trivial rfl ?_
    refine Gx_callS (As := [.int p2, .int (0 : Int32), .int (5 : Int32)]) (by decide +kernel) ml_4_43 okX4_in mvX4_in rfl (by decide) (Nat.le_of_ble_eq_true rfl) (tX4_in h) (fun rr M10 qq => ?_)
    obtain ⟨r10, rfl, h⟩ := qq
    show Gx l E mX4_slotThen _ 13 M10 [some (.ref 50), some (.int p1), some (.int p2), none] [.int r10]
    refine Gx_if_ne (off := 9) (tgt := 22) (by decide +kernel) (by decide) (fun z => ?_) (fun z => ?_)
    · have h := h.1 z
      refine Gx_run (es := eX4_slotThen_22) (P := []) (M' := M10) (L' := [some (.ref 50), some (.int p1), some (.int p2), none]) (st' := [.ref 50]) (pc' := 23) kX4_slotThen_22 rfl trivial rfl ?_
      refine Gx_callV (As := []) (by decide +kernel) ml_4_196 okX4_keeps mvX4_keeps rfl (by decide) (Nat.le_of_ble_eq_true rfl) rfl rfl rfl (tX4_keeps h) (fun rr M23 qq => ?_)
      obtain ⟨rfl, h⟩ := qq
      show Gx l E mX4_slotThen _ 26 M23 [some (.ref 50), some (.int p1), some (.int p2), none] []
      refine Gx_run (es := eX4_slotThen_26) (P := []) (M' := M23) (L' := [some (.ref 50), some (.int p1), some (.int p2), none]) (st' := [.ref 50]) (pc' := 27) kX4_slotThen_26 rfl trivial rfl ?_
      refine Gx_callV (As := []) (by decide +kernel) ml_4_100 okX4_checks mvX4_checks rfl (by decide) (Nat.le_of_ble_eq_true rfl) rfl rfl rfl (tX4_checks h) (fun rr M27 qq => ?_)
      obtain ⟨r27, rfl, h⟩ := qq
      show Gx l E mX4_slotThen _ 30 M27 [some (.ref 50), some (.int p1), some (.int p2), none] [.int r27]
      refine Gx_run (es := eX4_slotThen_30) (P := []) (M' := M27) (L' := [some (.ref 50), some (.int p1), some (.int p2), none]) (st' := [.int p2, .int p1, .ref 50]) (pc' := 34) kX4_slotThen_30 rfl trivial rfl ?_
      refine Gx_callV (As := [.int p1, .int p2]) (by decide +kernel) ml_4_124 okX4_slotOf mvX4_slotOf rfl (by decide) (Nat.le_of_ble_eq_true rfl) rfl rfl rfl (tX4_slotOf h) (fun rr M34 qq => ?_)
      obtain ⟨r34, rfl, h⟩ := qq
      show Gx l E mX4_slotThen _ 37 M34 [some (.ref 50), some (.int p1), some (.int p2), none] [.int r34]
      refine Gx_run (es := eX4_slotThen_37) (P := []) (M' := M34) (L' := [some (.ref 50), some (.int p1), some (.int p2), some (.int r34)]) (st' := [.ref 50]) (pc' := 39) kX4_slotThen_37 rfl trivial rfl ?_
      refine Gx_callV (As := []) (by decide +kernel) ml_4_199 okX4_goesBack mvX4_goesBack rfl (by decide) (Nat.le_of_ble_eq_true rfl) rfl rfl rfl (tX4_goesBack h) (fun rr M39 qq => ?_)
      obtain ⟨rfl, h⟩ := qq
      show Gx l E mX4_slotThen _ 42 M39 [some (.ref 50), some (.int p1), some (.int p2), some (.int r34)] []
      refine Gx_run (es := eX4_slotThen_42) (P := []) (M' := M39) (L' := [some (.ref 50), some (.int p1), some (.int p2), some (.int r34)]) (st' := [.int r34]) (pc' := 43) kX4_slotThen_42 rfl trivial rfl ?_
      exact Gx_iret (by decide +kernel) rfl rfl ⟨_, rfl, h⟩
    · have h := h.2 z
      refine Gx_mask [true, false, false, false] (L' := [some (.ref 50), none, none, none]) rfl ?_
      exact tX4_slotThen_16  M10 h
