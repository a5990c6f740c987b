/-! walks: X3_inodeBySize, X4_checks, X4_kindLetter, X4_thenOf, X1_wrongLetterOf -/
def eX3_inodeBySize_0 : List xI := [(.aload_n 0, 1, 0, 0, 0)]
theorem kX3_inodeBySize_0 : xcode (xmb mX3_inodeBySize) (xmo mX3_inodeBySize) 0 eX3_inodeBySize_0 = true := by decide +kernel
def eX3_inodeBySize_4 : List xI := [(.istore_n 2, 1, 0, 0, 0), (.bipush (-9), 2, 0, 0, (-9)), (.istore_n 3, 1, 0, 0, 0), (.iconst 0, 1, 0, 0, (0)), (.istore 4, 2, 0, 0, 0)]
theorem kX3_inodeBySize_4 : xcode (xmb mX3_inodeBySize) (xmo mX3_inodeBySize) 4 eX3_inodeBySize_4 = true := by decide +kernel
def eX3_inodeBySize_11 : List xI := [(.iload 4, 2, 0, 0, 0), (.iload_n 1, 1, 0, 0, 0)]
theorem kX3_inodeBySize_11 : xcode (xmb mX3_inodeBySize) (xmo mX3_inodeBySize) 11 eX3_inodeBySize_11 = true := by decide +kernel
def eX3_inodeBySize_97 : List xI := [(.iload_n 3, 1, 0, 0, 0)]
theorem kX3_inodeBySize_97 : xcode (xmb mX3_inodeBySize) (xmo mX3_inodeBySize) 97 eX3_inodeBySize_97 = true := by decide +kernel
def eX3_inodeBySize_17 : List xI := [(.bipush (-9), 2, 0, 0, (-9)), (.istore_n 3, 1, 0, 0, 0), (.iconst (-1), 1, 0, 0, (-1)), (.istore 5, 2, 0, 0, 0), (.iconst 0, 1, 0, 0, (0)), (.istore 6, 2, 0, 0, 0)]
theorem kX3_inodeBySize_17 : xcode (xmb mX3_inodeBySize) (xmo mX3_inodeBySize) 17 eX3_inodeBySize_17 = true := by decide +kernel
def eX3_inodeBySize_26 : List xI := [(.iload 6, 2, 0, 0, 0), (.bipush 10, 2, 0, 0, (10))]
theorem kX3_inodeBySize_26 : xcode (xmb mX3_inodeBySize) (xmo mX3_inodeBySize) 26 eX3_inodeBySize_26 = true := by decide +kernel
def eX3_inodeBySize_74 : List xI := [(.iload_n 3, 1, 0, 0, 0), (.bipush (-9), 2, 0, 0, (-9))]
theorem kX3_inodeBySize_74 : xcode (xmb mX3_inodeBySize) (xmo mX3_inodeBySize) 74 eX3_inodeBySize_74 = true := by decide +kernel
def eX3_inodeBySize_83 : List xI := [(.iload_n 2, 1, 0, 0, 0), (.iconst 1, 1, 0, 0, (1)), (.iload_n 3, 1, 0, 0, 0), (.ishl, 1, 0, 0, 0), (.iconst (-1), 1, 0, 0, (-1)), (.ixor, 1, 0, 0, 0), (.iand, 1, 0, 0, 0), (.istore_n 2, 1, 0, 0, 0), (.iinc 4 1, 3, 0, 0, (1))]
theorem kX3_inodeBySize_83 : xcode (xmb mX3_inodeBySize) (xmo mX3_inodeBySize) 83 eX3_inodeBySize_83 = true := by decide +kernel
def eX3_inodeBySize_80 : List xI := [(.bipush (-9), 2, 0, 0, (-9))]
theorem kX3_inodeBySize_80 : xcode (xmb mX3_inodeBySize) (xmo mX3_inodeBySize) 80 eX3_inodeBySize_80 = true := by decide +kernel
def eX3_inodeBySize_33 : List xI := [(.iload_n 2, 1, 0, 0, 0), (.iload 6, 2, 0, 0, 0), (.ishr, 1, 0, 0, 0), (.iconst 1, 1, 0, 0, (1)), (.iand, 1, 0, 0, 0)]
theorem kX3_inodeBySize_33 : xcode (xmb mX3_inodeBySize) (xmo mX3_inodeBySize) 33 eX3_inodeBySize_33 = true := by decide +kernel
def eX3_inodeBySize_51 : List xI := [(.iconst (-1), 1, 0, 0, (-1))]
theorem kX3_inodeBySize_51 : xcode (xmb mX3_inodeBySize) (xmo mX3_inodeBySize) 51 eX3_inodeBySize_51 = true := by decide +kernel
def eX3_inodeBySize_52 : List xI := [(.istore 7, 2, 0, 0, 0), (.iload 7, 2, 0, 0, 0), (.iload 5, 2, 0, 0, 0)]
theorem kX3_inodeBySize_52 : xcode (xmb mX3_inodeBySize) (xmo mX3_inodeBySize) 52 eX3_inodeBySize_52 = true := by decide +kernel
def eX3_inodeBySize_68 : List xI := [(.iinc 6 1, 3, 0, 0, (1))]
theorem kX3_inodeBySize_68 : xcode (xmb mX3_inodeBySize) (xmo mX3_inodeBySize) 68 eX3_inodeBySize_68 = true := by decide +kernel
def eX3_inodeBySize_61 : List xI := [(.iload 7, 2, 0, 0, 0), (.istore 5, 2, 0, 0, 0), (.iload 6, 2, 0, 0, 0), (.istore_n 3, 1, 0, 0, 0)]
theorem kX3_inodeBySize_61 : xcode (xmb mX3_inodeBySize) (xmo mX3_inodeBySize) 61 eX3_inodeBySize_61 = true := by decide +kernel
def eX3_inodeBySize_42 : List xI := [(.aload_n 0, 1, 0, 0, 0), (.iload 6, 2, 0, 0, 0)]
theorem kX3_inodeBySize_42 : xcode (xmb mX3_inodeBySize) (xmo mX3_inodeBySize) 42 eX3_inodeBySize_42 = true := by decide +kernel
def wX3_inodeBySize_68 (p1 : Nat) (p2 : Int32) (Q : Int32 → xM → Prop) (k11 : xM → Int32 → Int32 → Int32 → Prop) (k26 : xM → Int32 → Int32 → Int32 → Int32 → Int32 → Prop) (M : xM) (a2 : Int32) (a3 : Int32) (a4 : Int32) (a5 : Int32) (a6 : Int32) : Prop :=
    k26 M a2 a3 a4 a5 (a6 + (1 : Int32))
set_option maxHeartbeats 4000000 in
set_option maxRecDepth 100000 in
theorem tX3_inodeBySize_68 {l : Launch} {E : xE} {p1 : Nat} {p2 : Int32} {Q : Int32 → xM → Prop} {k11 : xM → Int32 → Int32 → Int32 → Prop} {k26 : xM → Int32 → Int32 → Int32 → Int32 → Int32 → Prop} (h_p1 : xVol p1) (hk11 : ∀ (M : xM) (a2 : Int32) (a3 : Int32) (a4 : Int32), k11 M a2 a3 a4 → Gx l E mX3_inodeBySize (xRi Q) 11 M [some (.ref p1), some (.int p2), some (.int a2), some (.int a3), some (.int a4), none, none, none] []) (hk26 : ∀ (M : xM) (a2 : Int32) (a3 : Int32) (a4 : Int32) (a5 : Int32) (a6 : Int32), k26 M a2 a3 a4 a5 a6 → Gx l E mX3_inodeBySize (xRi Q) 26 M [some (.ref p1), some (.int p2), some (.int a2), some (.int a3), some (.int a4), some (.int a5), some (.int a6), none] []) (M : xM) (a2 : Int32) (a3 : Int32) (a4 : Int32) (a5 : Int32) (a6 : Int32) (h : wX3_inodeBySize_68 p1 p2 Q k11 k26 M a2 a3 a4 a5 a6) : Gx l E mX3_inodeBySize (xRi Q) 68 M [some (.ref p1), some (.int p2), some (.int a2), some (.int a3), some (.int a4), some (.int a5), some (.int a6), none] [] := by
  unfold wX3_inodeBySize_68 at h
  refine Gx_run (es := eX3_inodeBySize_68) (P := []) (M' := M) (L' := [some (.ref p1), some (.int p2), some (.int a2), some (.int a3), some (.int a4), some (.int a5), some (.int (a6 + (1 : Int32))), none]) (st' := []) (pc' := 71) kX3_inodeBySize_68 rfl trivial rfl ?_
  refine Gx_goto (off := -45) (tgt := 26) (by decide +kernel) (by decide) ?_
  refine Gx_mask [true, true, true, true, true, true, true, false] (L' := [some (.ref p1), some (.int p2), some (.int a2), some (.int a3), some (.int a4), some (.int a5), some (.int (a6 + (1 : Int32))), none]) rfl ?_
  exact hk26 M a2 a3 a4 a5 (a6 + (1 : Int32)) h
def wX3_inodeBySize_52 (p1 : Nat) (p2 : Int32) (Q : Int32 → xM → Prop) (k11 : xM → Int32 → Int32 → Int32 → Prop) (k26 : xM → Int32 → Int32 → Int32 → Int32 → Int32 → Prop) (M : xM) (a2 : Int32) (a3 : Int32) (a4 : Int32) (a5 : Int32) (a6 : Int32) (s0 : Int32) : Prop :=
    (((s0 ≤ a5) → (wX3_inodeBySize_68 p1 p2 Q k11 k26 M a2 a3 a4 a5 a6)) ∧ ((¬ s0 ≤ a5) → (wX3_inodeBySize_68 p1 p2 Q k11 k26 M a2 a6 a4 s0 a6)))
set_option maxHeartbeats 4000000 in
set_option maxRecDepth 100000 in
theorem tX3_inodeBySize_52 {l : Launch} {E : xE} {p1 : Nat} {p2 : Int32} {Q : Int32 → xM → Prop} {k11 : xM → Int32 → Int32 → Int32 → Prop} {k26 : xM → Int32 → Int32 → Int32 → Int32 → Int32 → Prop} (h_p1 : xVol p1) (hk11 : ∀ (M : xM) (a2 : Int32) (a3 : Int32) (a4 : Int32), k11 M a2 a3 a4 → Gx l E mX3_inodeBySize (xRi Q) 11 M [some (.ref p1), some (.int p2), some (.int a2), some (.int a3), some (.int a4), none, none, none] []) (hk26 : ∀ (M : xM) (a2 : Int32) (a3 : Int32) (a4 : Int32) (a5 : Int32) (a6 : Int32), k26 M a2 a3 a4 a5 a6 → Gx l E mX3_inodeBySize (xRi Q) 26 M [some (.ref p1), some (.int p2), some (.int a2), some (.int a3), some (.int a4), some (.int a5), some (.int a6), none] []) (M : xM) (a2 : Int32) (a3 : Int32) (a4 : Int32) (a5 : Int32) (a6 : Int32) (s0 : Int32) (h : wX3_inodeBySize_52 p1 p2 Q k11 k26 M a2 a3 a4 a5 a6 s0) : Gx l E mX3_inodeBySize (xRi Q) 52 M [some (.ref p1), some (.int p2), some (.int a2), some (.int a3), some (.int a4), some (.int a5), some (.int a6), none] [.int s0] := by
  unfold wX3_inodeBySize_52 at h
  refine Gx_run (es := eX3_inodeBySize_52) (P := []) (M' := M) (L' := [some (.ref p1), some (.int p2), some (.int a2), some (.int a3), some (.int a4), some (.int a5), some (.int a6), some (.int s0)]) (st' := [.int a5, .int s0]) (pc' := 58) kX3_inodeBySize_52 rfl trivial rfl ?_
  refine Gx_icmp_le (off := 10) (tgt := 68) (by decide +kernel) (by decide) (fun z => ?_) (fun z => ?_)
  · have h := h.1 z
    refine Gx_mask [true, true, true, true, true, true, true, false] (L' := [some (.ref p1), some (.int p2), some (.int a2), some (.int a3), some (.int a4), some (.int a5), some (.int a6), none]) rfl ?_
    exact tX3_inodeBySize_68 h_p1  hk11 hk26 M a2 a3 a4 a5 a6 h
  · have h := h.2 z
    refine Gx_run (es := eX3_inodeBySize_61) (P := []) (M' := M) (L' := [some (.ref p1), some (.int p2), some (.int a2), some (.int a6), some (.int a4), some (.int s0), some (.int a6), some (.int s0)]) (st' := []) (pc' := 68) kX3_inodeBySize_61 rfl trivial rfl ?_
    refine Gx_mask [true, true, true, true, true, true, true, false] (L' := [some (.ref p1), some (.int p2), some (.int a2), some (.int a6), some (.int a4), some (.int s0), some (.int a6), none]) rfl ?_
    exact tX3_inodeBySize_68 h_p1  hk11 hk26 M a2 a6 a4 s0 a6 h
def lX3_inodeBySize_26 (p1 : Nat) (p2 : Int32) (Q : Int32 → xM → Prop) (k11 : xM → Int32 → Int32 → Int32 → Prop) : Nat → xM → Int32 → Int32 → Int32 → Int32 → Int32 → Prop
  | 0 => fun _ _ _ _ _ _ => False
  | n + 1 => let k26 := lX3_inodeBySize_26 p1 p2 Q k11 n; fun M a2 a3 a4 a5 a6 =>
    ((((10 : Int32) ≤ a6) → ((((¬ a3 = (-9 : Int32)) → (k11 M (a2 &&& (((1 : Int32) <<< (a3 &&& 31)) ^^^ (-1 : Int32))) a3 (a4 + (1 : Int32)))) ∧ ((a3 = (-9 : Int32)) → (Q (-9 : Int32) M))))) ∧ ((¬ (10 : Int32) ≤ a6) → ((((((a2 >>> (a6 &&& 31)) &&& (1 : Int32)) = 0) → (wX3_inodeBySize_52 p1 p2 Q k11 k26 M a2 a3 a4 a5 a6 (-1 : Int32))) ∧ ((¬ ((a2 >>> (a6 &&& 31)) &&& (1 : Int32)) = 0) → (wX2_blocksBelow M p1 a6 (fun r45 M45 => wX3_inodeBySize_52 p1 p2 Q k11 k26 M45 a2 a3 a4 a5 a6 r45)))))))
set_option maxHeartbeats 4000000 in
set_option maxRecDepth 100000 in
theorem tX3_inodeBySize_26 {l : Launch} {E : xE} {p1 : Nat} {p2 : Int32} {Q : Int32 → xM → Prop} {k11 : xM → Int32 → Int32 → Int32 → Prop} (h_p1 : xVol p1) (hk11 : ∀ (M : xM) (a2 : Int32) (a3 : Int32) (a4 : Int32), k11 M a2 a3 a4 → Gx l E mX3_inodeBySize (xRi Q) 11 M [some (.ref p1), some (.int p2), some (.int a2), some (.int a3), some (.int a4), none, none, none] []) (n : Nat) : ∀ (M : xM) (a2 : Int32) (a3 : Int32) (a4 : Int32) (a5 : Int32) (a6 : Int32), lX3_inodeBySize_26 p1 p2 Q k11 n M a2 a3 a4 a5 a6 → Gx l E mX3_inodeBySize (xRi Q) 26 M [some (.ref p1), some (.int p2), some (.int a2), some (.int a3), some (.int a4), some (.int a5), some (.int a6), none] [] := by
  induction n with
  | zero => intro M a2 a3 a4 a5 a6 h; exact h.elim
  | succ n hk26 =>
      intro M a2 a3 a4 a5 a6 h
      unfold lX3_inodeBySize_26 at h
      dsimp only at h
      refine Gx_run (es := eX3_inodeBySize_26) (P := []) (M' := M) (L' := [some (.ref p1), some (.int p2), some (.int a2), some (.int a3), some (.int a4), some (.int a5), some (.int a6), none]) (st' := [.int (10 : Int32), .int a6]) (pc' := 30) kX3_inodeBySize_26 rfl trivial rfl ?_
      refine Gx_icmp_ge (off := 44) (tgt := 74) (by decide +kernel) (by decide) (fun z => ?_) (fun z => ?_)
      · have h := h.1 z
        refine Gx_run (es := eX3_inodeBySize_74) (P := []) (M' := M) (L' := [some (.ref p1), some (.int p2), some (.int a2), some (.int a3), some (.int a4), some (.int a5), some (.int a6), none]) (st' := [.int (-9 : Int32), .int a3]) (pc' := 77) kX3_inodeBySize_74 rfl trivial rfl ?_
        refine Gx_icmp_ne (off := 6) (tgt := 83) (by decide +kernel) (by decide) (fun z => ?_) (fun z => ?_)
        · have h := h.1 z
          refine Gx_run (es := eX3_inodeBySize_83) (P := []) (M' := M) (L' := [some (.ref p1), some (.int p2), some (.int (a2 &&& (((1 : Int32) <<< (a3 &&& 31)) ^^^ (-1 : Int32)))), some (.int a3), some (.int (a4 + (1 : Int32))), some (.int a5), some (.int a6), none]) (st' := []) (pc' := 94) kX3_inodeBySize_83 rfl trivial rfl ?_
          refine Gx_goto (off := -83) (tgt := 11) (by decide +kernel) (by decide) ?_
          refine Gx_mask [true, true, true, true, true, false, false, false] (L' := [some (.ref p1), some (.int p2), some (.int (a2 &&& (((1 : Int32) <<< (a3 &&& 31)) ^^^ (-1 : Int32)))), some (.int a3), some (.int (a4 + (1 : Int32))), none, none, none]) rfl ?_
          exact hk11 M (a2 &&& (((1 : Int32) <<< (a3 &&& 31)) ^^^ (-1 : Int32))) a3 (a4 + (1 : Int32)) h
        · have h := h.2 z
          refine Gx_run (es := eX3_inodeBySize_80) (P := []) (M' := M) (L' := [some (.ref p1), some (.int p2), some (.int a2), some (.int a3), some (.int a4), some (.int a5), some (.int a6), none]) (st' := [.int (-9 : Int32)]) (pc' := 82) kX3_inodeBySize_80 rfl trivial rfl ?_
          exact Gx_iret (by decide +kernel) rfl rfl ⟨_, rfl, h⟩
      · have h := h.2 z
        refine Gx_run (es := eX3_inodeBySize_33) (P := []) (M' := M) (L' := [some (.ref p1), some (.int p2), some (.int a2), some (.int a3), some (.int a4), some (.int a5), some (.int a6), none]) (st' := [.int ((a2 >>> (a6 &&& 31)) &&& (1 : Int32))]) (pc' := 39) kX3_inodeBySize_33 rfl trivial rfl ?_
        refine Gx_if_eq (off := 12) (tgt := 51) (by decide +kernel) (by decide) (fun z => ?_) (fun z => ?_)
        · have h := h.1 z
          refine Gx_run (es := eX3_inodeBySize_51) (P := []) (M' := M) (L' := [some (.ref p1), some (.int p2), some (.int a2), some (.int a3), some (.int a4), some (.int a5), some (.int a6), none]) (st' := [.int (-1 : Int32)]) (pc' := 52) kX3_inodeBySize_51 rfl trivial rfl ?_
          refine Gx_mask [true, true, true, true, true, true, true, false] (L' := [some (.ref p1), some (.int p2), some (.int a2), some (.int a3), some (.int a4), some (.int a5), some (.int a6), none]) rfl ?_
          exact tX3_inodeBySize_52 h_p1  hk11 hk26 M a2 a3 a4 a5 a6 (-1 : Int32) h
        · have h := h.2 z
          refine Gx_run (es := eX3_inodeBySize_42) (P := []) (M' := M) (L' := [some (.ref p1), some (.int p2), some (.int a2), some (.int a3), some (.int a4), some (.int a5), some (.int a6), none]) (st' := [.int a6, .ref p1]) (pc' := 45) kX3_inodeBySize_42 rfl trivial rfl ?_
          refine Gx_callV (As := [.int a6]) (by decide +kernel) ml_3_165 okX2_blocksBelow mvX2_blocksBelow rfl (by decide) (Nat.le_of_ble_eq_true rfl) (xVol_0 h_p1) rfl rfl (tX2_blocksBelow h_p1 h) (fun rr M45 qq => ?_)
          obtain ⟨r45, rfl, h⟩ := qq
          show Gx l E mX3_inodeBySize _ 48 M45 [some (.ref p1), some (.int p2), some (.int a2), some (.int a3), some (.int a4), some (.int a5), some (.int a6), none] [.int r45]
          refine Gx_goto (off := 4) (tgt := 52) (by decide +kernel) (by decide) ?_
          refine Gx_mask [true, true, true, true, true, true, true, false] (L' := [some (.ref p1), some (.int p2), some (.int a2), some (.int a3), some (.int a4), some (.int a5), some (.int a6), none]) rfl ?_
          exact tX3_inodeBySize_52 h_p1  hk11 hk26 M45 a2 a3 a4 a5 a6 r45 h
def lX3_inodeBySize_11 (p1 : Nat) (p2 : Int32) (Q : Int32 → xM → Prop) : Nat → xM → Int32 → Int32 → Int32 → Prop
  | 0 => fun _ _ _ _ => False
  | n + 1 => let k11 := lX3_inodeBySize_11 p1 p2 Q n; fun M a2 a3 a4 =>
    (((p2 < a4) → (Q a3 M)) ∧ ((¬ p2 < a4) → ((∃ n : Nat, lX3_inodeBySize_26 p1 p2 Q k11 n M a2 (-9 : Int32) a4 (-1 : Int32) (0 : Int32)))))
set_option maxHeartbeats 4000000 in
set_option maxRecDepth 100000 in
theorem tX3_inodeBySize_11 {l : Launch} {E : xE} {p1 : Nat} {p2 : Int32} {Q : Int32 → xM → Prop} (h_p1 : xVol p1) (n : Nat) : ∀ (M : xM) (a2 : Int32) (a3 : Int32) (a4 : Int32), lX3_inodeBySize_11 p1 p2 Q n M a2 a3 a4 → Gx l E mX3_inodeBySize (xRi Q) 11 M [some (.ref p1), some (.int p2), some (.int a2), some (.int a3), some (.int a4), none, none, none] [] := by
  induction n with
  | zero => intro M a2 a3 a4 h; exact h.elim
  | succ n hk11 =>
      intro M a2 a3 a4 h
      unfold lX3_inodeBySize_11 at h
      dsimp only at h
      refine Gx_run (es := eX3_inodeBySize_11) (P := []) (M' := M) (L' := [some (.ref p1), some (.int p2), some (.int a2), some (.int a3), some (.int a4), none, none, none]) (st' := [.int p2, .int a4]) (pc' := 14) kX3_inodeBySize_11 rfl trivial rfl ?_
      refine Gx_icmp_gt (off := 83) (tgt := 97) (by decide +kernel) (by decide) (fun z => ?_) (fun z => ?_)
      · have h := h.1 z
        refine Gx_run (es := eX3_inodeBySize_97) (P := []) (M' := M) (L' := [some (.ref p1), some (.int p2), some (.int a2), some (.int a3), some (.int a4), none, none, none]) (st' := [.int a3]) (pc' := 98) kX3_inodeBySize_97 rfl trivial rfl ?_
        exact Gx_iret (by decide +kernel) rfl rfl ⟨_, rfl, h⟩
      · have h := h.2 z
        refine Gx_run (es := eX3_inodeBySize_17) (P := []) (M' := M) (L' := [some (.ref p1), some (.int p2), some (.int a2), some (.int (-9 : Int32)), some (.int a4), some (.int (-1 : Int32)), some (.int (0 : Int32)), none]) (st' := []) (pc' := 26) kX3_inodeBySize_17 rfl trivial rfl ?_
        refine Gx_mask [true, true, true, true, true, true, true, false] (L' := [some (.ref p1), some (.int p2), some (.int a2), some (.int (-9 : Int32)), some (.int a4), some (.int (-1 : Int32)), some (.int (0 : Int32)), none]) rfl ?_
        obtain ⟨n, h⟩ := h
        exact tX3_inodeBySize_26 h_p1  hk11 n M a2 (-9 : Int32) a4 (-1 : Int32) (0 : Int32) h
def wX3_inodeBySize (M : xM) (p1 : Nat) (p2 : Int32) (Q : Int32 → xM → Prop) : Prop :=
    wX2_inodesInUse M p1 (fun r1 M1 => (∃ n : Nat, lX3_inodeBySize_11 p1 p2 Q n M1 r1 (-9 : Int32) (0 : Int32)))
set_option maxHeartbeats 4000000 in
set_option maxRecDepth 100000 in
theorem tX3_inodeBySize {l : Launch} {E : xE} {M : xM} {p1 : Nat} {p2 : Int32} {Q : Int32 → xM → Prop} (h_p1 : xVol p1) (h : wX3_inodeBySize M p1 p2 Q) : Ct l E mX3_inodeBySize [.ref p1, .int p2] M (xRi Q) := by
  refine Ct_of (by decide +kernel) rfl (Nat.le_of_ble_eq_true rfl) ?_
  unfold wX3_inodeBySize at h
  show Gx l E mX3_inodeBySize (xRi Q) 0 M [some (.ref p1), some (.int p2), none, none, none, none, none, none] []
  refine Gx_run (es := eX3_inodeBySize_0) (P := []) (M' := M) (L' := [some (.ref p1), some (.int p2), none, none, none, none, none, none]) (st' := [.ref p1]) (pc' := 1) kX3_inodeBySize_0 rfl trivial rfl ?_
  refine Gx_callV (As := []) (by decide +kernel) ml_3_172 okX2_inodesInUse mvX2_inodesInUse rfl (by decide) (Nat.le_of_ble_eq_true rfl) (xVol_0 h_p1) rfl rfl (tX2_inodesInUse h_p1 h) (fun rr M1 qq => ?_)
  obtain ⟨r1, rfl, h⟩ := qq
  show Gx l E mX3_inodeBySize _ 4 M1 [some (.ref p1), some (.int p2), none, none, none, none, none, none] [.int r1]
  refine Gx_run (es := eX3_inodeBySize_4) (P := []) (M' := M1) (L' := [some (.ref p1), some (.int p2), some (.int r1), some (.int (-9 : Int32)), some (.int (0 : Int32)), none, none, none]) (st' := []) (pc' := 11) kX3_inodeBySize_4 rfl trivial rfl ?_
  refine Gx_mask [true, true, true, true, true, false, false, false] (L' := [some (.ref p1), some (.int p2), some (.int r1), some (.int (-9 : Int32)), some (.int (0 : Int32)), none, none, none]) rfl ?_
  obtain ⟨n, h⟩ := h
  exact tX3_inodeBySize_11 h_p1  n M1 r1 (-9 : Int32) (0 : Int32) h
def eX4_checks_0 : List xI := [(.aload_n 0, 1, 0, 0, 0), (.iconst 0, 1, 0, 0, (0)), (.putfield 133, 3, 4, 14, 0), (.aload_n 0, 1, 0, 0, 0), (.iconst 0, 1, 0, 0, (0))]
theorem kX4_checks_0 : xcode (xmb mX4_checks) (xmo mX4_checks) 0 eX4_checks_0 = true := by decide +kernel
def eX4_checks_26 : List xI := [(.iconst 0, 1, 0, 0, (0)), (.istore_n 1, 1, 0, 0, 0)]
theorem kX4_checks_26 : xcode (xmb mX4_checks) (xmo mX4_checks) 26 eX4_checks_26 = true := by decide +kernel
def eX4_checks_28 : List xI := [(.iload_n 1, 1, 0, 0, 0), (.bipush 30, 2, 0, 0, (30))]
theorem kX4_checks_28 : xcode (xmb mX4_checks) (xmo mX4_checks) 28 eX4_checks_28 = true := by decide +kernel
def eX4_checks_50 : List xI := [(.iconst 0, 1, 0, 0, (0)), (.istore_n 1, 1, 0, 0, 0)]
theorem kX4_checks_50 : xcode (xmb mX4_checks) (xmo mX4_checks) 50 eX4_checks_50 = true := by decide +kernel
def eX4_checks_52 : List xI := [(.iload_n 1, 1, 0, 0, 0), (.bipush 60, 2, 0, 0, (60))]
theorem kX4_checks_52 : xcode (xmb mX4_checks) (xmo mX4_checks) 52 eX4_checks_52 = true := by decide +kernel
def eX4_checks_76 : List xI := [(.aload_n 0, 1, 0, 0, 0)]
theorem kX4_checks_76 : xcode (xmb mX4_checks) (xmo mX4_checks) 76 eX4_checks_76 = true := by decide +kernel
def eX4_checks_80 : List xI := [(.aload_n 0, 1, 0, 0, 0)]
theorem kX4_checks_80 : xcode (xmb mX4_checks) (xmo mX4_checks) 80 eX4_checks_80 = true := by decide +kernel
def eX4_checks_84 : List xI := [(.aload_n 0, 1, 0, 0, 0)]
theorem kX4_checks_84 : xcode (xmb mX4_checks) (xmo mX4_checks) 84 eX4_checks_84 = true := by decide +kernel
def eX4_checks_88 : List xI := [(.aload_n 0, 1, 0, 0, 0), (.getfield 133, 3, 4, 14, 0)]
theorem kX4_checks_88 : xcode (xmb mX4_checks) (xmo mX4_checks) 88 eX4_checks_88 = true := by decide +kernel
def eX4_checks_58 : List xI := [(.aload_n 0, 1, 0, 0, 0), (.iload_n 1, 1, 0, 0, 0), (.bipush 6, 2, 0, 0, (6)), (.idiv, 1, 0, 0, 0), (.iload_n 1, 1, 0, 0, 0), (.bipush 6, 2, 0, 0, (6)), (.irem, 1, 0, 0, 0)]
theorem kX4_checks_58 : xcode (xmb mX4_checks) (xmo mX4_checks) 58 eX4_checks_58 = true := by decide +kernel
def eX4_checks_70 : List xI := [(.iinc 1 1, 3, 0, 0, (1))]
theorem kX4_checks_70 : xcode (xmb mX4_checks) (xmo mX4_checks) 70 eX4_checks_70 = true := by decide +kernel
def eX4_checks_34 : List xI := [(.aload_n 0, 1, 0, 0, 0), (.iload_n 1, 1, 0, 0, 0), (.iconst 3, 1, 0, 0, (3)), (.idiv, 1, 0, 0, 0), (.iload_n 1, 1, 0, 0, 0), (.iconst 3, 1, 0, 0, (3)), (.irem, 1, 0, 0, 0)]
theorem kX4_checks_34 : xcode (xmb mX4_checks) (xmo mX4_checks) 34 eX4_checks_34 = true := by decide +kernel
def eX4_checks_44 : List xI := [(.iinc 1 1, 3, 0, 0, (1))]
theorem kX4_checks_44 : xcode (xmb mX4_checks) (xmo mX4_checks) 44 eX4_checks_44 = true := by decide +kernel
def eX4_checks_13 : List xI := [(.aload_n 0, 1, 0, 0, 0), (.iconst 1, 1, 0, 0, (1)), (.iconst 0, 1, 0, 0, (0)), (.iconst 0, 1, 0, 0, (0))]
theorem kX4_checks_13 : xcode (xmb mX4_checks) (xmo mX4_checks) 13 eX4_checks_13 = true := by decide +kernel
def eX4_checks_20 : List xI := [(.aload_n 0, 1, 0, 0, 0), (.iconst 0, 1, 0, 0, (0)), (.iconst 2, 1, 0, 0, (2))]
theorem kX4_checks_20 : xcode (xmb mX4_checks) (xmo mX4_checks) 20 eX4_checks_20 = true := by decide +kernel
def lX4_checks_52 (Q : Int32 → xM → Prop) : Nat → xM → Int32 → Prop
  | 0 => fun _ _ => False
  | n + 1 => let k52 := lX4_checks_52  Q n; fun M a1 =>
    ((((60 : Int32) ≤ a1) → (wX4_connects M (fun M77 => wX4_countsLinks M77 (fun M81 => wX4_maps M81 (fun M85 => Q (M85 50 14) M85))))) ∧ ((¬ (60 : Int32) ≤ a1) → (wX4_looksAtSlot M (a1 / (6 : Int32)) (a1 - a1 / (6 : Int32) * (6 : Int32)) (fun M67 => k52 M67 (a1 + (1 : Int32))))))
set_option maxHeartbeats 4000000 in
set_option maxRecDepth 100000 in
theorem tX4_checks_52 {l : Launch} {E : xE} {Q : Int32 → xM → Prop} (n : Nat) : ∀ (M : xM) (a1 : Int32), lX4_checks_52  Q n M a1 → Gx l E mX4_checks (xRi Q) 52 M [some (.ref 50), some (.int a1)] [] := by
  induction n with
  | zero => intro M a1 h; exact h.elim
  | succ n hk52 =>
      intro M a1 h
      unfold lX4_checks_52 at h
      dsimp only at h
      refine Gx_run (es := eX4_checks_52) (P := []) (M' := M) (L' := [some (.ref 50), some (.int a1)]) (st' := [.int (60 : Int32), .int a1]) (pc' := 55) kX4_checks_52 rfl trivial rfl ?_
      refine Gx_icmp_ge (off := 21) (tgt := 76) (by decide +kernel) (by decide) (fun z => ?_) (fun z => ?_)
      · have h := h.1 z
        refine Gx_run (es := eX4_checks_76) (P := []) (M' := M) (L' := [some (.ref 50), some (.int a1)]) (st' := [.ref 50]) (pc' := 77) kX4_checks_76 rfl trivial rfl ?_
        refine Gx_callV (As := []) (by decide +kernel) ml_4_187 okX4_connects mvX4_connects rfl (by decide) (Nat.le_of_ble_eq_true rfl) rfl rfl rfl (tX4_connects h) (fun rr M77 qq => ?_)
        obtain ⟨rfl, h⟩ := qq
        show Gx l E mX4_checks _ 80 M77 [some (.ref 50), some (.int a1)] []
        refine Gx_run (es := eX4_checks_80) (P := []) (M' := M77) (L' := [some (.ref 50), some (.int a1)]) (st' := [.ref 50]) (pc' := 81) kX4_checks_80 rfl trivial rfl ?_
        refine Gx_callV (As := []) (by decide +kernel) ml_4_190 okX4_countsLinks mvX4_countsLinks rfl (by decide) (Nat.le_of_ble_eq_true rfl) rfl rfl rfl (tX4_countsLinks h) (fun rr M81 qq => ?_)
        obtain ⟨rfl, h⟩ := qq
        show Gx l E mX4_checks _ 84 M81 [some (.ref 50), some (.int a1)] []
        refine Gx_run (es := eX4_checks_84) (P := []) (M' := M81) (L' := [some (.ref 50), some (.int a1)]) (st' := [.ref 50]) (pc' := 85) kX4_checks_84 rfl trivial rfl ?_
        refine Gx_callV (As := []) (by decide +kernel) ml_4_193 okX4_maps mvX4_maps rfl (by decide) (Nat.le_of_ble_eq_true rfl) rfl rfl rfl (tX4_maps h) (fun rr M85 qq => ?_)
        obtain ⟨rfl, h⟩ := qq
        show Gx l E mX4_checks _ 88 M85 [some (.ref 50), some (.int a1)] []
        refine Gx_run (es := eX4_checks_88) (P := [xkd 50 = 4]) (M' := M85) (L' := [some (.ref 50), some (.int a1)]) (st' := [.int (M85 50 14)]) (pc' := 92) kX4_checks_88 rfl ⟨rfl, trivial⟩ rfl ?_
        exact Gx_iret (by decide +kernel) rfl rfl ⟨_, rfl, h⟩
      · have h := h.2 z
        refine Gx_run (es := eX4_checks_58) (P := [¬ (6 : Int32) = 0, ¬ (6 : Int32) = 0]) (M' := M) (L' := [some (.ref 50), some (.int a1)]) (st' := [.int (a1 - a1 / (6 : Int32) * (6 : Int32)), .int (a1 / (6 : Int32)), .ref 50]) (pc' := 67) kX4_checks_58 rfl ⟨(by decide), (by decide), trivial⟩ rfl ?_
        refine Gx_callV (As := [.int (a1 / (6 : Int32)), .int (a1 - a1 / (6 : Int32) * (6 : Int32))]) (by decide +kernel) ml_4_184 okX4_looksAtSlot mvX4_looksAtSlot rfl (by decide) (Nat.le_of_ble_eq_true rfl) rfl rfl rfl (tX4_looksAtSlot h) (fun rr M67 qq => ?_)
        obtain ⟨rfl, h⟩ := qq
        show Gx l E mX4_checks _ 70 M67 [some (.ref 50), some (.int a1)] []
        refine Gx_run (es := eX4_checks_70) (P := []) (M' := M67) (L' := [some (.ref 50), some (.int (a1 + (1 : Int32)))]) (st' := []) (pc' := 73) kX4_checks_70 rfl trivial rfl ?_
        refine Gx_goto (off := -21) (tgt := 52) (by decide +kernel) (by decide) ?_
        refine Gx_mask [true, true] (L' := [some (.ref 50), some (.int (a1 + (1 : Int32)))]) rfl ?_
        exact hk52 M67 (a1 + (1 : Int32)) h
def lX4_checks_28 (Q : Int32 → xM → Prop) : Nat → xM → Int32 → Prop
  | 0 => fun _ _ => False
  | n + 1 => let k28 := lX4_checks_28  Q n; fun M a1 =>
    ((((30 : Int32) ≤ a1) → ((∃ n : Nat, lX4_checks_52  Q n M (0 : Int32)))) ∧ ((¬ (30 : Int32) ≤ a1) → (wX4_looksAtPointer M (a1 / (3 : Int32)) (a1 - a1 / (3 : Int32) * (3 : Int32)) (fun M41 => k28 M41 (a1 + (1 : Int32))))))
set_option maxHeartbeats 4000000 in
set_option maxRecDepth 100000 in
theorem tX4_checks_28 {l : Launch} {E : xE} {Q : Int32 → xM → Prop} (n : Nat) : ∀ (M : xM) (a1 : Int32), lX4_checks_28  Q n M a1 → Gx l E mX4_checks (xRi Q) 28 M [some (.ref 50), some (.int a1)] [] := by
  induction n with
  | zero => intro M a1 h; exact h.elim
  | succ n hk28 =>
      intro M a1 h
      unfold lX4_checks_28 at h
      dsimp only at h
      refine Gx_run (es := eX4_checks_28) (P := []) (M' := M) (L' := [some (.ref 50), some (.int a1)]) (st' := [.int (30 : Int32), .int a1]) (pc' := 31) kX4_checks_28 rfl trivial rfl ?_
      refine Gx_icmp_ge (off := 19) (tgt := 50) (by decide +kernel) (by decide) (fun z => ?_) (fun z => ?_)
      · have h := h.1 z
        refine Gx_run (es := eX4_checks_50) (P := []) (M' := M) (L' := [some (.ref 50), some (.int (0 : Int32))]) (st' := []) (pc' := 52) kX4_checks_50 rfl trivial rfl ?_
        refine Gx_mask [true, true] (L' := [some (.ref 50), some (.int (0 : Int32))]) rfl ?_
        obtain ⟨n, h⟩ := h
        exact tX4_checks_52  n M (0 : Int32) h
      · have h := h.2 z
        refine Gx_run (es := eX4_checks_34) (P := [¬ (3 : Int32) = 0, ¬ (3 : Int32) = 0]) (M' := M) (L' := [some (.ref 50), some (.int a1)]) (st' := [.int (a1 - a1 / (3 : Int32) * (3 : Int32)), .int (a1 / (3 : Int32)), .ref 50]) (pc' := 41) kX4_checks_34 rfl ⟨(by decide), (by decide), trivial⟩ rfl ?_
        refine Gx_callV (As := [.int (a1 / (3 : Int32)), .int (a1 - a1 / (3 : Int32) * (3 : Int32))]) (by decide +kernel) ml_4_181 okX4_looksAtPointer mvX4_looksAtPointer rfl (by decide) (Nat.le_of_ble_eq_true rfl) rfl rfl rfl (tX4_looksAtPointer h) (fun rr M41 qq => ?_)
        obtain ⟨rfl, h⟩ := qq
        show Gx l E mX4_checks _ 44 M41 [some (.ref 50), some (.int a1)] []
        refine Gx_run (es := eX4_checks_44) (P := []) (M' := M41) (L' := [some (.ref 50), some (.int (a1 + (1 : Int32)))]) (st' := []) (pc' := 47) kX4_checks_44 rfl trivial rfl ?_
        refine Gx_goto (off := -19) (tgt := 28) (by decide +kernel) (by decide) ?_
        refine Gx_mask [true, true] (L' := [some (.ref 50), some (.int (a1 + (1 : Int32)))]) rfl ?_
        exact hk28 M41 (a1 + (1 : Int32)) h
def wX4_checks_26 (Q : Int32 → xM → Prop) (M : xM) : Prop :=
    (∃ n : Nat, lX4_checks_28  Q n M (0 : Int32))
set_option maxHeartbeats 4000000 in
set_option maxRecDepth 100000 in
theorem tX4_checks_26 {l : Launch} {E : xE} {Q : Int32 → xM → Prop} (M : xM) (h : wX4_checks_26  Q M ) : Gx l E mX4_checks (xRi Q) 26 M [some (.ref 50), none] [] := by
  unfold wX4_checks_26 at h
  refine Gx_run (es := eX4_checks_26) (P := []) (M' := M) (L' := [some (.ref 50), some (.int (0 : Int32))]) (st' := []) (pc' := 28) kX4_checks_26 rfl trivial rfl ?_
  refine Gx_mask [true, true] (L' := [some (.ref 50), some (.int (0 : Int32))]) rfl ?_
  obtain ⟨n, h⟩ := h
  exact tX4_checks_28  n M (0 : Int32) h
def wX4_checks (M : xM) (Q : Int32 → xM → Prop) : Prop :=
    wX4_isDirectory (xup M 50 14 (0 : Int32)) (0 : Int32) (fun r7 M7 => (((¬ r7 = 0) → (wX4_checks_26  Q M7)) ∧ ((r7 = 0) → (wX4_asks M7 (1 : Int32) (0 : Int32) (0 : Int32) (fun M17 => wX4_wipes M17 (0 : Int32) (2 : Int32) (fun M23 => wX4_checks_26  Q M23))))))
set_option maxHeartbeats 4000000 in
set_option maxRecDepth 100000 in
theorem tX4_checks {l : Launch} {E : xE} {M : xM} {Q : Int32 → xM → Prop} (h : wX4_checks M  Q) : Ct l E mX4_checks [.ref 50] M (xRi Q) := by
  refine Ct_of (by decide +kernel) rfl (Nat.le_of_ble_eq_true rfl) ?_
  unfold wX4_checks at h
  show Gx l E mX4_checks (xRi Q) 0 M [some (.ref 50), none] []
  refine Gx_run (es := eX4_checks_0) (P := [xkd 50 = 4]) (M' := (xup M 50 14 (0 : Int32))) (L' := [some (.ref 50), none]) (st' := [.int (0 : Int32), .ref 50]) (pc' := 7) kX4_checks_0 rfl ⟨rfl, trivial⟩ rfl ?_
  refine Gx_callV (As := [.int (0 : Int32)]) (by decide +kernel) ml_4_152 okX4_isDirectory mvX4_isDirectory rfl (by decide) (Nat.le_of_ble_eq_true rfl) rfl rfl rfl (tX4_isDirectory h) (fun rr M7 qq => ?_)
  obtain ⟨r7, rfl, h⟩ := qq
  show Gx l E mX4_checks _ 10 M7 [some (.ref 50), none] [.int r7]
  refine Gx_if_ne (off := 16) (tgt := 26) (by decide +kernel) (by decide) (fun z => ?_) (fun z => ?_)
  · have h := h.1 z
    refine Gx_mask [true, false] (L' := [some (.ref 50), none]) rfl ?_
    exact tX4_checks_26  M7 h
  · have h := h.2 z
    refine Gx_run (es := eX4_checks_13) (P := []) (M' := M7) (L' := [some (.ref 50), none]) (st' := [.int (0 : Int32), .int (0 : Int32), .int (1 : Int32), .ref 50]) (pc' := 17) kX4_checks_13 rfl trivial rfl ?_
    refine Gx_callV (As := [.int (1 : Int32), .int (0 : Int32), .int (0 : Int32)]) (by decide +kernel) ml_4_136 okX4_asks mvX4_asks rfl (by decide) (Nat.le_of_ble_eq_true rfl) rfl rfl rfl (tX4_asks h) (fun rr M17 qq => ?_)
    obtain ⟨rfl, h⟩ := qq
    show Gx l E mX4_checks _ 20 M17 [some (.ref 50), none] []
    refine Gx_run (es := eX4_checks_20) (P := []) (M' := M17) (L' := [some (.ref 50), none]) (st' := [.int (2 : Int32), .int (0 : Int32), .ref 50]) (pc' := 23) kX4_checks_20 rfl trivial rfl ?_
    refine Gx_callV (As := [.int (0 : Int32), .int (2 : Int32)]) (by decide +kernel) ml_4_161 okX4_wipes mvX4_wipes rfl (by decide) (Nat.le_of_ble_eq_true rfl) rfl rfl rfl (tX4_wipes h) (fun rr M23 qq => ?_)
    obtain ⟨rfl, h⟩ := qq
    show Gx l E mX4_checks _ 26 M23 [some (.ref 50), none] []
    refine Gx_mask [true, false] (L' := [some (.ref 50), none]) rfl ?_
    exact tX4_checks_26  M23 h
def eX4_kindLetter_0 : List xI := [(.ldc 79, 2, 1, 8, 0), (.astore_n 1, 1, 0, 0, 0), (.aload_n 0, 1, 0, 0, 0)]
theorem kX4_kindLetter_0 : xcode (xmb mX4_kindLetter) (xmo mX4_kindLetter) 0 eX4_kindLetter_0 = true := by decide +kernel
def eX4_kindLetter_7 : List xI := [(.istore_n 2, 1, 0, 0, 0), (.iconst 0, 1, 0, 0, (0)), (.istore_n 3, 1, 0, 0, 0)]
theorem kX4_kindLetter_7 : xcode (xmb mX4_kindLetter) (xmo mX4_kindLetter) 7 eX4_kindLetter_7 = true := by decide +kernel
def eX4_kindLetter_10 : List xI := [(.iload_n 3, 1, 0, 0, 0), (.bipush 6, 2, 0, 0, (6))]
theorem kX4_kindLetter_10 : xcode (xmb mX4_kindLetter) (xmo mX4_kindLetter) 10 eX4_kindLetter_10 = true := by decide +kernel
def eX4_kindLetter_43 : List xI := [(.aload_n 0, 1, 0, 0, 0), (.iconst 1, 1, 0, 0, (1)), (.putfield 68, 3, 4, 9, 0), (.iconst 0, 1, 0, 0, (0))]
theorem kX4_kindLetter_43 : xcode (xmb mX4_kindLetter) (xmo mX4_kindLetter) 43 eX4_kindLetter_43 = true := by decide +kernel
def eX4_kindLetter_16 : List xI := [(.aload_n 1, 1, 0, 0, 0), (.iload_n 3, 1, 0, 0, 0)]
theorem kX4_kindLetter_16 : xcode (xmb mX4_kindLetter) (xmo mX4_kindLetter) 16 eX4_kindLetter_16 = true := by decide +kernel
def eX4_kindLetter_21 : List xI := [(.iload_n 2, 1, 0, 0, 0)]
theorem kX4_kindLetter_21 : xcode (xmb mX4_kindLetter) (xmo mX4_kindLetter) 21 eX4_kindLetter_21 = true := by decide +kernel
def eX4_kindLetter_37 : List xI := [(.iinc 3 1, 3, 0, 0, (1))]
theorem kX4_kindLetter_37 : xcode (xmb mX4_kindLetter) (xmo mX4_kindLetter) 37 eX4_kindLetter_37 = true := by decide +kernel
def eX4_kindLetter_25 : List xI := [(.aload_n 0, 1, 0, 0, 0), (.dup, 1, 0, 0, 0), (.getfield 61, 3, 4, 8, 0), (.iconst 1, 1, 0, 0, (1)), (.iadd, 1, 0, 0, 0), (.putfield 61, 3, 4, 8, 0), (.iload_n 3, 1, 0, 0, 0)]
theorem kX4_kindLetter_25 : xcode (xmb mX4_kindLetter) (xmo mX4_kindLetter) 25 eX4_kindLetter_25 = true := by decide +kernel
def lX4_kindLetter_10 (Q : Int32 → xM → Prop) : Nat → xM → Int32 → Int32 → Prop
  | 0 => fun _ _ _ => False
  | n + 1 => let k10 := lX4_kindLetter_10  Q n; fun M a2 a3 =>
    ((((6 : Int32) ≤ a3) → (Q (0 : Int32) (xup M 50 9 (1 : Int32)))) ∧ ((¬ (6 : Int32) ≤ a3) → (wJ0_charAt_5068e M 118 a3 (fun r18 M18 => (((¬ r18 = a2) → (k10 M18 a2 (a3 + (1 : Int32)))) ∧ ((r18 = a2) → (Q a3 (xup M18 50 8 ((M18 50 8) + (1 : Int32))))))))))
set_option maxHeartbeats 4000000 in
set_option maxRecDepth 100000 in
theorem tX4_kindLetter_10 {l : Launch} {E : xE} {Q : Int32 → xM → Prop} (n : Nat) : ∀ (M : xM) (a2 : Int32) (a3 : Int32), lX4_kindLetter_10  Q n M a2 a3 → Gx l E mX4_kindLetter (xRi Q) 10 M [some (.ref 50), some (.ref 118), some (.int a2), some (.int a3)] [] := by
  induction n with
  | zero => intro M a2 a3 h; exact h.elim
  | succ n hk10 =>
      intro M a2 a3 h
      unfold lX4_kindLetter_10 at h
      dsimp only at h
      refine Gx_run (es := eX4_kindLetter_10) (P := []) (M' := M) (L' := [some (.ref 50), some (.ref 118), some (.int a2), some (.int a3)]) (st' := [.int (6 : Int32), .int a3]) (pc' := 13) kX4_kindLetter_10 rfl trivial rfl ?_
      refine Gx_icmp_ge (off := 30) (tgt := 43) (by decide +kernel) (by decide) (fun z => ?_) (fun z => ?_)
      · have h := h.1 z
        refine Gx_run (es := eX4_kindLetter_43) (P := [xkd 50 = 4, (1 : Int32) = 0 ∨ (1 : Int32) = 1]) (M' := (xup M 50 9 (1 : Int32))) (L' := [some (.ref 50), some (.ref 118), some (.int a2), some (.int a3)]) (st' := [.int (0 : Int32)]) (pc' := 49) kX4_kindLetter_43 rfl ⟨rfl, (Or.inr rfl), trivial⟩ rfl ?_
        exact Gx_iret (by decide +kernel) rfl rfl ⟨_, rfl, h⟩
      · have h := h.2 z
        refine Gx_run (es := eX4_kindLetter_16) (P := []) (M' := M) (L' := [some (.ref 50), some (.ref 118), some (.int a2), some (.int a3)]) (st' := [.int a3, .ref 118]) (pc' := 18) kX4_kindLetter_16 rfl trivial rfl ?_
        refine Gx_callTp (As := [.int a3]) (by decide +kernel) ml_4_81 okJ0_charAt_5068e mvJ0_charAt_5068e rfl (by decide) (Nat.le_of_ble_eq_true rfl) (show 110 ≤ 118 ∧ 118 < 119 by decide) rfl (tJ0_charAt_5068e (show 110 ≤ 118 ∧ 118 < 119 by decide) h) (fun rr M18 qq => ?_)
        obtain ⟨r18, rfl, h⟩ := qq
        show Gx l E mX4_kindLetter _ 21 M18 [some (.ref 50), some (.ref 118), some (.int a2), some (.int a3)] [.int r18]
        refine Gx_run (es := eX4_kindLetter_21) (P := []) (M' := M18) (L' := [some (.ref 50), some (.ref 118), some (.int a2), some (.int a3)]) (st' := [.int a2, .int r18]) (pc' := 22) kX4_kindLetter_21 rfl trivial rfl ?_
        refine Gx_icmp_ne (off := 15) (tgt := 37) (by decide +kernel) (by decide) (fun z => ?_) (fun z => ?_)
        · have h := h.1 z
          refine Gx_run (es := eX4_kindLetter_37) (P := []) (M' := M18) (L' := [some (.ref 50), some (.ref 118), some (.int a2), some (.int (a3 + (1 : Int32)))]) (st' := []) (pc' := 40) kX4_kindLetter_37 rfl trivial rfl ?_
          refine Gx_goto (off := -30) (tgt := 10) (by decide +kernel) (by decide) ?_
          refine Gx_mask [true, true, true, true] (L' := [some (.ref 50), some (.ref 118), some (.int a2), some (.int (a3 + (1 : Int32)))]) rfl ?_
          exact hk10 M18 a2 (a3 + (1 : Int32)) h
        · have h := h.2 z
          refine Gx_run (es := eX4_kindLetter_25) (P := [xkd 50 = 4, xkd 50 = 4]) (M' := (xup M18 50 8 ((M18 50 8) + (1 : Int32)))) (L' := [some (.ref 50), some (.ref 118), some (.int a2), some (.int a3)]) (st' := [.int a3]) (pc' := 36) kX4_kindLetter_25 rfl ⟨rfl, rfl, trivial⟩ rfl ?_
          exact Gx_iret (by decide +kernel) rfl rfl ⟨_, rfl, h⟩
def wX4_kindLetter (M : xM) (Q : Int32 → xM → Prop) : Prop :=
    wX4_here M (fun r4 M4 => (∃ n : Nat, lX4_kindLetter_10  Q n M4 r4 (0 : Int32)))
set_option maxHeartbeats 4000000 in
set_option maxRecDepth 100000 in
theorem tX4_kindLetter {l : Launch} {E : xE} {M : xM} {Q : Int32 → xM → Prop} (h : wX4_kindLetter M  Q) : Ct l E mX4_kindLetter [.ref 50] M (xRi Q) := by
  refine Ct_of (by decide +kernel) rfl (Nat.le_of_ble_eq_true rfl) ?_
  unfold wX4_kindLetter at h
  show Gx l E mX4_kindLetter (xRi Q) 0 M [some (.ref 50), none, none, none] []
  refine Gx_run (es := eX4_kindLetter_0) (P := [118 ≠ 103]) (M' := M) (L' := [some (.ref 50), some (.ref 118), none, none]) (st' := [.ref 50]) (pc' := 4) kX4_kindLetter_0 rfl ⟨(by decide), trivial⟩ rfl ?_
  refine Gx_callV (As := []) (by decide +kernel) ml_4_64 okX4_here mvX4_here rfl (by decide) (Nat.le_of_ble_eq_true rfl) rfl rfl rfl (tX4_here h) (fun rr M4 qq => ?_)
  obtain ⟨r4, rfl, h⟩ := qq
  show Gx l E mX4_kindLetter _ 7 M4 [some (.ref 50), some (.ref 118), none, none] [.int r4]
  refine Gx_run (es := eX4_kindLetter_7) (P := []) (M' := M4) (L' := [some (.ref 50), some (.ref 118), some (.int r4), some (.int (0 : Int32))]) (st' := []) (pc' := 10) kX4_kindLetter_7 rfl trivial rfl ?_
  refine Gx_mask [true, true, true, true] (L' := [some (.ref 50), some (.ref 118), some (.int r4), some (.int (0 : Int32))]) rfl ?_
  obtain ⟨n, h⟩ := h
  exact tX4_kindLetter_10  n M4 r4 (0 : Int32) h
def eX4_thenOf_0 : List xI := [(.iload_n 2, 1, 0, 0, 0)]
theorem kX4_thenOf_0 : xcode (xmb mX4_thenOf) (xmo mX4_thenOf) 0 eX4_thenOf_0 = true := by decide +kernel
def eX4_thenOf_36 : List xI := [(.aload_n 0, 1, 0, 0, 0), (.getfield 7, 3, 4, 1, 0), (.iconst 0, 1, 0, 0, (0)), (.iload_n 1, 1, 0, 0, 0), (.iadd, 1, 0, 0, 0), (.iaload, 1, 0, 0, 0)]
theorem kX4_thenOf_36 : xcode (xmb mX4_thenOf) (xmo mX4_thenOf) 36 eX4_thenOf_36 = true := by decide +kernel
def eX4_thenOf_45 : List xI := [(.aload_n 0, 1, 0, 0, 0), (.getfield 7, 3, 4, 1, 0), (.bipush 10, 2, 0, 0, (10)), (.iload_n 1, 1, 0, 0, 0), (.iadd, 1, 0, 0, 0), (.iaload, 1, 0, 0, 0)]
theorem kX4_thenOf_45 : xcode (xmb mX4_thenOf) (xmo mX4_thenOf) 45 eX4_thenOf_45 = true := by decide +kernel
def eX4_thenOf_55 : List xI := [(.aload_n 0, 1, 0, 0, 0), (.getfield 7, 3, 4, 1, 0), (.bipush 20, 2, 0, 0, (20)), (.iload_n 1, 1, 0, 0, 0), (.iadd, 1, 0, 0, 0), (.iaload, 1, 0, 0, 0)]
theorem kX4_thenOf_55 : xcode (xmb mX4_thenOf) (xmo mX4_thenOf) 55 eX4_thenOf_55 = true := by decide +kernel
def eX4_thenOf_65 : List xI := [(.aload_n 0, 1, 0, 0, 0), (.iload_n 1, 1, 0, 0, 0)]
theorem kX4_thenOf_65 : xcode (xmb mX4_thenOf) (xmo mX4_thenOf) 65 eX4_thenOf_65 = true := by decide +kernel
def eX4_thenOf_71 : List xI := [(.aload_n 0, 1, 0, 0, 0), (.iload_n 1, 1, 0, 0, 0)]
theorem kX4_thenOf_71 : xcode (xmb mX4_thenOf) (xmo mX4_thenOf) 71 eX4_thenOf_71 = true := by decide +kernel
def eX4_thenOf_97 : List xI := [(.bipush (-9), 2, 0, 0, (-9))]
theorem kX4_thenOf_97 : xcode (xmb mX4_thenOf) (xmo mX4_thenOf) 97 eX4_thenOf_97 = true := by decide +kernel
def eX4_thenOf_79 : List xI := [(.aload_n 0, 1, 0, 0, 0), (.iload_n 1, 1, 0, 0, 0), (.iconst 0, 1, 0, 0, (0))]
theorem kX4_thenOf_79 : xcode (xmb mX4_thenOf) (xmo mX4_thenOf) 79 eX4_thenOf_79 = true := by decide +kernel
def eX4_thenOf_85 : List xI := [(.iconst 1, 1, 0, 0, (1)), (.iload_n 1, 1, 0, 0, 0), (.ishl, 1, 0, 0, 0), (.iconst (-1), 1, 0, 0, (-1)), (.ixor, 1, 0, 0, 0), (.iand, 1, 0, 0, 0)]
theorem kX4_thenOf_85 : xcode (xmb mX4_thenOf) (xmo mX4_thenOf) 85 eX4_thenOf_85 = true := by decide +kernel
def eX4_thenOf_100 : List xI := [(.aload_n 0, 1, 0, 0, 0), (.iload_n 1, 1, 0, 0, 0)]
theorem kX4_thenOf_100 : xcode (xmb mX4_thenOf) (xmo mX4_thenOf) 100 eX4_thenOf_100 = true := by decide +kernel
def wX4_thenOf_99 (p1 : Int32) (p2 : Int32) (Q : Int32 → xM → Prop) (M : xM) (s0 : Int32) : Prop :=
    Q s0 M
set_option maxHeartbeats 4000000 in
set_option maxRecDepth 100000 in
theorem tX4_thenOf_99 {l : Launch} {E : xE} {p1 : Int32} {p2 : Int32} {Q : Int32 → xM → Prop} (M : xM) (s0 : Int32) (h : wX4_thenOf_99 p1 p2 Q M s0) : Gx l E mX4_thenOf (xRi Q) 99 M [none, none, none] [.int s0] := by
  unfold wX4_thenOf_99 at h
  exact Gx_iret (by decide +kernel) rfl rfl ⟨_, rfl, h⟩
def wX4_thenOf (M : xM) (p1 : Int32) (p2 : Int32) (Q : Int32 → xM → Prop) : Prop :=
    (((p2 = (0 : Int32)) → ((vp_in ((0 : Int32) + p1) 147) ∧ Q (M 51 ((0 : Int32) + p1).toNatClampNeg) M)) ∧ ((¬ p2 = (0 : Int32)) → (((p2 = (1 : Int32)) → ((vp_in ((10 : Int32) + p1) 147) ∧ Q (M 51 ((10 : Int32) + p1).toNatClampNeg) M)) ∧ ((¬ p2 = (1 : Int32)) → (((p2 = (2 : Int32)) → ((vp_in ((20 : Int32) + p1) 147) ∧ Q (M 51 ((20 : Int32) + p1).toNatClampNeg) M)) ∧ ((¬ p2 = (2 : Int32)) → (((p2 = (3 : Int32)) → (wX4_depthOf M p1 (fun r67 M67 => Q r67 M67))) ∧ ((¬ p2 = (3 : Int32)) → (((p2 = (4 : Int32)) → (wX4_isDirectory M p1 (fun r73 M73 => (((r73 = 0) → (wX4_thenOf_99 p1 p2 Q M73 (-9 : Int32))) ∧ ((¬ r73 = 0) → (wX4_reached M73 p1 (0 : Int32) (fun r82 M82 => wX4_countOf M82 (r82 &&& (((1 : Int32) <<< (p1 &&& 31)) ^^^ (-1 : Int32))) (fun r91 M91 => wX4_thenOf_99 p1 p2 Q M91 r91)))))))) ∧ ((¬ p2 = (4 : Int32)) → (wX4_blocksBelow M p1 (fun r102 M102 => Q r102 M102))))))))))))
set_option maxHeartbeats 4000000 in
set_option maxRecDepth 100000 in
theorem tX4_thenOf {l : Launch} {E : xE} {M : xM} {p1 : Int32} {p2 : Int32} {Q : Int32 → xM → Prop} (h : wX4_thenOf M p1 p2 Q) : Ct l E mX4_thenOf [.ref 50, .int p1, .int p2] M (xRi Q) := by
  refine Ct_of (by decide +kernel) rfl (Nat.le_of_ble_eq_true rfl) ?_
  unfold wX4_thenOf at h
  show Gx l E mX4_thenOf (xRi Q) 0 M [some (.ref 50), some (.int p1), some (.int p2)] []
  refine Gx_run (es := eX4_thenOf_0) (P := []) (M' := M) (L' := [some (.ref 50), some (.int p1), some (.int p2)]) (st' := [.int p2]) (pc' := 1) kX4_thenOf_0 rfl trivial rfl ?_
  by_cases z0 : p2 = (0 : Int32)
  · have h := h.1 z0
    refine Gx_tabAt (dflt := 99) (lo := 0) (hi := 4) (offs := #[35, 44, 54, 64, 70]) (len := 35) z0 (by decide +kernel) (by decide) (by decide) (off := 35) (tgt := 36) rfl (by decide) ?_
    obtain ⟨g36_0, h⟩ := h
    refine Gx_run (es := eX4_thenOf_36) (P := [xkd 50 = 4, xkd 51 = 5, vp_in ((0 : Int32) + p1) (xln 51)]) (M' := M) (L' := [some (.ref 50), some (.int p1), some (.int p2)]) (st' := [.int (M 51 ((0 : Int32) + p1).toNatClampNeg)]) (pc' := 44) kX4_thenOf_36 rfl ⟨rfl, rfl, g36_0, trivial⟩ rfl ?_
    exact Gx_iret (by decide +kernel) rfl rfl ⟨_, rfl, h⟩
  replace h := h.2 z0
  by_cases z1 : p2 = (1 : Int32)
  · have h := h.1 z1
    refine Gx_tabAt (dflt := 99) (lo := 0) (hi := 4) (offs := #[35, 44, 54, 64, 70]) (len := 35) z1 (by decide +kernel) (by decide) (by decide) (off := 44) (tgt := 45) rfl (by decide) ?_
    obtain ⟨g45_0, h⟩ := h
    refine Gx_run (es := eX4_thenOf_45) (P := [xkd 50 = 4, xkd 51 = 5, vp_in ((10 : Int32) + p1) (xln 51)]) (M' := M) (L' := [some (.ref 50), some (.int p1), some (.int p2)]) (st' := [.int (M 51 ((10 : Int32) + p1).toNatClampNeg)]) (pc' := 54) kX4_thenOf_45 rfl ⟨rfl, rfl, g45_0, trivial⟩ rfl ?_
    exact Gx_iret (by decide +kernel) rfl rfl ⟨_, rfl, h⟩
  replace h := h.2 z1
  by_cases z2 : p2 = (2 : Int32)
  · have h := h.1 z2
    refine Gx_tabAt (dflt := 99) (lo := 0) (hi := 4) (offs := #[35, 44, 54, 64, 70]) (len := 35) z2 (by decide +kernel) (by decide) (by decide) (off := 54) (tgt := 55) rfl (by decide) ?_
    obtain ⟨g55_0, h⟩ := h
    refine Gx_run (es := eX4_thenOf_55) (P := [xkd 50 = 4, xkd 51 = 5, vp_in ((20 : Int32) + p1) (xln 51)]) (M' := M) (L' := [some (.ref 50), some (.int p1), some (.int p2)]) (st' := [.int (M 51 ((20 : Int32) + p1).toNatClampNeg)]) (pc' := 64) kX4_thenOf_55 rfl ⟨rfl, rfl, g55_0, trivial⟩ rfl ?_
    exact Gx_iret (by decide +kernel) rfl rfl ⟨_, rfl, h⟩
  replace h := h.2 z2
  by_cases z3 : p2 = (3 : Int32)
  · have h := h.1 z3
    refine Gx_tabAt (dflt := 99) (lo := 0) (hi := 4) (offs := #[35, 44, 54, 64, 70]) (len := 35) z3 (by decide +kernel) (by decide) (by decide) (off := 64) (tgt := 65) rfl (by decide) ?_
    refine Gx_run (es := eX4_thenOf_65) (P := []) (M' := M) (L' := [some (.ref 50), some (.int p1), some (.int p2)]) (st' := [.int p1, .ref 50]) (pc' := 67) kX4_thenOf_65 rfl trivial rfl ?_
    refine Gx_callV (As := [.int p1]) (by decide +kernel) ml_4_214 okX4_depthOf mvX4_depthOf rfl (by decide) (Nat.le_of_ble_eq_true rfl) rfl rfl rfl (tX4_depthOf h) (fun rr M67 qq => ?_)
    obtain ⟨r67, rfl, h⟩ := qq
    show Gx l E mX4_thenOf _ 70 M67 [some (.ref 50), some (.int p1), some (.int p2)] [.int r67]
    exact Gx_iret (by decide +kernel) rfl rfl ⟨_, rfl, h⟩
  replace h := h.2 z3
  by_cases z4 : p2 = (4 : Int32)
  · have h := h.1 z4
    refine Gx_tabAt (dflt := 99) (lo := 0) (hi := 4) (offs := #[35, 44, 54, 64, 70]) (len := 35) z4 (by decide +kernel) (by decide) (by decide) (off := 70) (tgt := 71) rfl (by decide) ?_
    refine Gx_run (es := eX4_thenOf_71) (P := []) (M' := M) (L' := [some (.ref 50), some (.int p1), some (.int p2)]) (st' := [.int p1, .ref 50]) (pc' := 73) kX4_thenOf_71 rfl trivial rfl ?_
    refine Gx_callV (As := [.int p1]) (by decide +kernel) ml_4_152 okX4_isDirectory mvX4_isDirectory rfl (by decide) (Nat.le_of_ble_eq_true rfl) rfl rfl rfl (tX4_isDirectory h) (fun rr M73 qq => ?_)
    obtain ⟨r73, rfl, h⟩ := qq
    show Gx l E mX4_thenOf _ 76 M73 [some (.ref 50), some (.int p1), some (.int p2)] [.int r73]
    refine Gx_if_eq (off := 21) (tgt := 97) (by decide +kernel) (by decide) (fun z => ?_) (fun z => ?_)
    · have h := h.1 z
      refine Gx_run (es := eX4_thenOf_97) (P := []) (M' := M73) (L' := [some (.ref 50), some (.int p1), some (.int p2)]) (st' := [.int (-9 : Int32)]) (pc' := 99) kX4_thenOf_97 rfl trivial rfl ?_
      refine Gx_mask [false, false, false] (L' := [none, none, none]) rfl ?_
      exact tX4_thenOf_99  M73 (-9 : Int32) h
    · have h := h.2 z
      refine Gx_run (es := eX4_thenOf_79) (P := []) (M' := M73) (L' := [some (.ref 50), some (.int p1), some (.int p2)]) (st' := [.int (0 : Int32), .int p1, .ref 50]) (pc' := 82) kX4_thenOf_79 rfl trivial rfl ?_
      refine Gx_callV (As := [.int p1, .int (0 : Int32)]) (by decide +kernel) ml_4_165 okX4_reached mvX4_reached rfl (by decide) (Nat.le_of_ble_eq_true rfl) rfl rfl rfl (tX4_reached h) (fun rr M82 qq => ?_)
      obtain ⟨r82, rfl, h⟩ := qq
      show Gx l E mX4_thenOf _ 85 M82 [some (.ref 50), some (.int p1), some (.int p2)] [.int r82]
      refine Gx_run (es := eX4_thenOf_85) (P := []) (M' := M82) (L' := [some (.ref 50), some (.int p1), some (.int p2)]) (st' := [.int (r82 &&& (((1 : Int32) <<< (p1 &&& 31)) ^^^ (-1 : Int32)))]) (pc' := 91) kX4_thenOf_85 rfl trivial rfl ?_
      refine Gx_callS (As := [.int (r82 &&& (((1 : Int32) <<< (p1 &&& 31)) ^^^ (-1 : Int32)))]) (by decide +kernel) ml_4_211 okX4_countOf mvX4_countOf rfl (by decide) (Nat.le_of_ble_eq_true rfl) (tX4_countOf h) (fun rr M91 qq => ?_)
      obtain ⟨r91, rfl, h⟩ := qq
      show Gx l E mX4_thenOf _ 94 M91 [some (.ref 50), some (.int p1), some (.int p2)] [.int r91]
      refine Gx_goto (off := 5) (tgt := 99) (by decide +kernel) (by decide) ?_
      refine Gx_mask [false, false, false] (L' := [none, none, none]) rfl ?_
      exact tX4_thenOf_99  M91 r91 h
  replace h := h.2 z4
  suffices hk : Gx l E mX4_thenOf _ 100 M [some (.ref 50), some (.int p1), some (.int p2)] [] by
    refine Gx_tableOut (dflt := 99) (lo := 0) (hi := 4) (offs := #[35, 44, 54, 64, 70]) (len := 35) (tgt := 100) (by decide +kernel) ?_ (by decide) hk
    have n0 := lv_neT (a := 0) z0 (by decide)
    have n1 := lv_neT (a := 1) z1 (by decide)
    have n2 := lv_neT (a := 2) z2 (by decide)
    have n3 := lv_neT (a := 3) z3 (by decide)
    have n4 := lv_neT (a := 4) z4 (by decide)
    omega
  refine Gx_run (es := eX4_thenOf_100) (P := []) (M' := M) (L' := [some (.ref 50), some (.int p1), some (.int p2)]) (st' := [.int p1, .ref 50]) (pc' := 102) kX4_thenOf_100 rfl trivial rfl ?_
  refine Gx_callV (As := [.int p1]) (by decide +kernel) ml_4_217 okX4_blocksBelow mvX4_blocksBelow rfl (by decide) (Nat.le_of_ble_eq_true rfl) rfl rfl rfl (tX4_blocksBelow h) (fun rr M102 qq => ?_)
  obtain ⟨r102, rfl, h⟩ := qq
  show Gx l E mX4_thenOf _ 105 M102 [some (.ref 50), some (.int p1), some (.int p2)] [.int r102]
  exact Gx_iret (by decide +kernel) rfl rfl ⟨_, rfl, h⟩
def eX1_wrongLetterOf_0 : List xI := [(.ldc 53, 2, 1, 0, 0), (.aload_n 0, 1, 0, 0, 0), (.iload_n 1, 1, 0, 0, 0)]
theorem kX1_wrongLetterOf_0 : xcode (xmb mX1_wrongLetterOf) (xmo mX1_wrongLetterOf) 0 eX1_wrongLetterOf_0 = true := by decide +kernel
def eX1_wrongLetterOf_7 : List xI := [(.i2c, 1, 0, 0, 0)]
theorem kX1_wrongLetterOf_7 : xcode (xmb mX1_wrongLetterOf) (xmo mX1_wrongLetterOf) 7 eX1_wrongLetterOf_7 = true := by decide +kernel
def eX1_wrongLetterOf_16 : List xI := [(.aload_n 0, 1, 0, 0, 0), (.iload_n 1, 1, 0, 0, 0)]
theorem kX1_wrongLetterOf_16 : xcode (xmb mX1_wrongLetterOf) (xmo mX1_wrongLetterOf) 16 eX1_wrongLetterOf_16 = true := by decide +kernel
def eX1_wrongLetterOf_24 : List xI := [(.astore_n 2, 1, 0, 0, 0), (.iconst 0, 1, 0, 0, (0)), (.istore_n 3, 1, 0, 0, 0)]
theorem kX1_wrongLetterOf_24 : xcode (xmb mX1_wrongLetterOf) (xmo mX1_wrongLetterOf) 24 eX1_wrongLetterOf_24 = true := by decide +kernel
def eX1_wrongLetterOf_27 : List xI := [(.iload_n 3, 1, 0, 0, 0), (.aload_n 2, 1, 0, 0, 0)]
theorem kX1_wrongLetterOf_27 : xcode (xmb mX1_wrongLetterOf) (xmo mX1_wrongLetterOf) 27 eX1_wrongLetterOf_27 = true := by decide +kernel
def eX1_wrongLetterOf_94 : List xI := [(.bipush (-9), 2, 0, 0, (-9))]
theorem kX1_wrongLetterOf_94 : xcode (xmb mX1_wrongLetterOf) (xmo mX1_wrongLetterOf) 94 eX1_wrongLetterOf_94 = true := by decide +kernel
def eX1_wrongLetterOf_35 : List xI := [(.iload_n 1, 1, 0, 0, 0), (.iconst 1, 1, 0, 0, (1)), (.iadd, 1, 0, 0, 0), (.iload_n 3, 1, 0, 0, 0), (.iadd, 1, 0, 0, 0), (.istore 4, 2, 0, 0, 0), (.iload_n 3, 1, 0, 0, 0), (.aload_n 2, 1, 0, 0, 0)]
theorem kX1_wrongLetterOf_35 : xcode (xmb mX1_wrongLetterOf) (xmo mX1_wrongLetterOf) 35 eX1_wrongLetterOf_35 = true := by decide +kernel
def eX1_wrongLetterOf_58 : List xI := [(.bipush 59, 2, 0, 0, (59))]
theorem kX1_wrongLetterOf_58 : xcode (xmb mX1_wrongLetterOf) (xmo mX1_wrongLetterOf) 58 eX1_wrongLetterOf_58 = true := by decide +kernel
def eX1_wrongLetterOf_60 : List xI := [(.istore 5, 2, 0, 0, 0), (.iload 4, 2, 0, 0, 0), (.aload_n 0, 1, 0, 0, 0), (.getfield 15, 3, 1, 1, 0)]
theorem kX1_wrongLetterOf_60 : xcode (xmb mX1_wrongLetterOf) (xmo mX1_wrongLetterOf) 60 eX1_wrongLetterOf_60 = true := by decide +kernel
def eX1_wrongLetterOf_85 : List xI := [(.iload 4, 2, 0, 0, 0)]
theorem kX1_wrongLetterOf_85 : xcode (xmb mX1_wrongLetterOf) (xmo mX1_wrongLetterOf) 85 eX1_wrongLetterOf_85 = true := by decide +kernel
def eX1_wrongLetterOf_71 : List xI := [(.iload 5, 2, 0, 0, 0), (.aload_n 0, 1, 0, 0, 0), (.iload 4, 2, 0, 0, 0)]
theorem kX1_wrongLetterOf_71 : xcode (xmb mX1_wrongLetterOf) (xmo mX1_wrongLetterOf) 71 eX1_wrongLetterOf_71 = true := by decide +kernel
def eX1_wrongLetterOf_88 : List xI := [(.iinc 3 1, 3, 0, 0, (1))]
theorem kX1_wrongLetterOf_88 : xcode (xmb mX1_wrongLetterOf) (xmo mX1_wrongLetterOf) 88 eX1_wrongLetterOf_88 = true := by decide +kernel
def eX1_wrongLetterOf_50 : List xI := [(.aload_n 2, 1, 0, 0, 0), (.iload_n 3, 1, 0, 0, 0)]
theorem kX1_wrongLetterOf_50 : xcode (xmb mX1_wrongLetterOf) (xmo mX1_wrongLetterOf) 50 eX1_wrongLetterOf_50 = true := by decide +kernel
def eX1_wrongLetterOf_14 : List xI := [(.iload_n 1, 1, 0, 0, 0)]
theorem kX1_wrongLetterOf_14 : xcode (xmb mX1_wrongLetterOf) (xmo mX1_wrongLetterOf) 14 eX1_wrongLetterOf_14 = true := by decide +kernel
def wX1_wrongLetterOf_85 (p1 : Int32) (Q : Int32 → xM → Prop) (M : xM) (a4 : Int32) : Prop :=
    Q a4 M
set_option maxHeartbeats 4000000 in
set_option maxRecDepth 100000 in
theorem tX1_wrongLetterOf_85 {l : Launch} {E : xE} {p1 : Int32} {Q : Int32 → xM → Prop} (M : xM) (a4 : Int32) (h : wX1_wrongLetterOf_85 p1 Q M a4) : Gx l E mX1_wrongLetterOf (xRi Q) 85 M [none, none, none, none, some (.int a4), none] [] := by
  unfold wX1_wrongLetterOf_85 at h
  refine Gx_run (es := eX1_wrongLetterOf_85) (P := []) (M' := M) (L' := [none, none, none, none, some (.int a4), none]) (st' := [.int a4]) (pc' := 87) kX1_wrongLetterOf_85 rfl trivial rfl ?_
  exact Gx_iret (by decide +kernel) rfl rfl ⟨_, rfl, h⟩
def wX1_wrongLetterOf_60 (p1 : Int32) (Q : Int32 → xM → Prop) (k27 : xM → Nat → Int32 → Prop) (M : xM) (a2 : Nat) (a3 : Int32) (a4 : Int32) (s0 : Int32) : Prop :=
    ((((M 46 1) ≤ a4) → (wX1_wrongLetterOf_85 p1 Q M a4)) ∧ ((¬ (M 46 1) ≤ a4) → (wX1_signAt M a4 (fun r76 M76 => wX1_fits M76 s0 r76 (fun r79 M79 => (((¬ r79 = 0) → (k27 M79 a2 (a3 + (1 : Int32)))) ∧ ((r79 = 0) → (wX1_wrongLetterOf_85 p1 Q M79 a4))))))))
set_option maxHeartbeats 4000000 in
set_option maxRecDepth 100000 in
theorem tX1_wrongLetterOf_60 {l : Launch} {E : xE} {p1 : Int32} {Q : Int32 → xM → Prop} {k27 : xM → Nat → Int32 → Prop} (hk27 : ∀ (M : xM) (a2 : Nat) (a3 : Int32), k27 M a2 a3 → Gx l E mX1_wrongLetterOf (xRi Q) 27 M [some (.ref 46), some (.int p1), some (.ref a2), some (.int a3), none, none] []) (M : xM) (a2 : Nat) (a3 : Int32) (a4 : Int32) (s0 : Int32) (h : wX1_wrongLetterOf_60 p1 Q k27 M a2 a3 a4 s0) : Gx l E mX1_wrongLetterOf (xRi Q) 60 M [some (.ref 46), some (.int p1), some (.ref a2), some (.int a3), some (.int a4), none] [.int s0] := by
  unfold wX1_wrongLetterOf_60 at h
  refine Gx_run (es := eX1_wrongLetterOf_60) (P := [xkd 46 = 1]) (M' := M) (L' := [some (.ref 46), some (.int p1), some (.ref a2), some (.int a3), some (.int a4), some (.int s0)]) (st' := [.int (M 46 1), .int a4]) (pc' := 68) kX1_wrongLetterOf_60 rfl ⟨rfl, trivial⟩ rfl ?_
  refine Gx_icmp_ge (off := 17) (tgt := 85) (by decide +kernel) (by decide) (fun z => ?_) (fun z => ?_)
  · have h := h.1 z
    refine Gx_mask [false, false, false, false, true, false] (L' := [none, none, none, none, some (.int a4), none]) rfl ?_
    exact tX1_wrongLetterOf_85  M a4 h
  · have h := h.2 z
    refine Gx_run (es := eX1_wrongLetterOf_71) (P := []) (M' := M) (L' := [some (.ref 46), some (.int p1), some (.ref a2), some (.int a3), some (.int a4), some (.int s0)]) (st' := [.int a4, .ref 46, .int s0]) (pc' := 76) kX1_wrongLetterOf_71 rfl trivial rfl ?_
    refine Gx_callV (As := [.int a4]) (by decide +kernel) ml_1_19 okX1_signAt mvX1_signAt rfl (by decide) (Nat.le_of_ble_eq_true rfl) rfl rfl rfl (tX1_signAt h) (fun rr M76 qq => ?_)
    obtain ⟨r76, rfl, h⟩ := qq
    show Gx l E mX1_wrongLetterOf _ 79 M76 [some (.ref 46), some (.int p1), some (.ref a2), some (.int a3), some (.int a4), some (.int s0)] [.int r76, .int s0]
    refine Gx_callS (As := [.int s0, .int r76]) (by decide +kernel) ml_1_59 okX1_fits mvX1_fits rfl (by decide) (Nat.le_of_ble_eq_true rfl) (tX1_fits h) (fun rr M79 qq => ?_)
    obtain ⟨r79, rfl, h⟩ := qq
    show Gx l E mX1_wrongLetterOf _ 82 M79 [some (.ref 46), some (.int p1), some (.ref a2), some (.int a3), some (.int a4), some (.int s0)] [.int r79]
    refine Gx_if_ne (off := 6) (tgt := 88) (by decide +kernel) (by decide) (fun z => ?_) (fun z => ?_)
    · have h := h.1 z
      refine Gx_run (es := eX1_wrongLetterOf_88) (P := []) (M' := M79) (L' := [some (.ref 46), some (.int p1), some (.ref a2), some (.int (a3 + (1 : Int32))), some (.int a4), some (.int s0)]) (st' := []) (pc' := 91) kX1_wrongLetterOf_88 rfl trivial rfl ?_
      refine Gx_goto (off := -64) (tgt := 27) (by decide +kernel) (by decide) ?_
      refine Gx_mask [true, true, true, true, false, false] (L' := [some (.ref 46), some (.int p1), some (.ref a2), some (.int (a3 + (1 : Int32))), none, none]) rfl ?_
      exact hk27 M79 a2 (a3 + (1 : Int32)) h
    · have h := h.2 z
      refine Gx_mask [false, false, false, false, true, false] (L' := [none, none, none, none, some (.int a4), none]) rfl ?_
      exact tX1_wrongLetterOf_85  M79 a4 h
def lX1_wrongLetterOf_27 (p1 : Int32) (Q : Int32 → xM → Prop) : Nat → xM → Nat → Int32 → Prop
  | 0 => fun _ _ _ => False
  | n + 1 => let k27 := lX1_wrongLetterOf_27 p1 Q n; fun M a2 a3 =>
    (xStp a2) ∧ wJ0_length_8abf5 M a2 (fun r29 M29 => (((r29 < a3) → (Q (-9 : Int32) M29)) ∧ ((¬ r29 < a3) → ((xStp a2) ∧ wJ0_length_8abf5 M29 a2 (fun r44 M44 => (((r44 ≤ a3) → (wX1_wrongLetterOf_60 p1 Q k27 M44 a2 a3 ((p1 + (1 : Int32)) + a3) (59 : Int32))) ∧ ((¬ r44 ≤ a3) → ((xStp a2) ∧ wJ0_charAt_5068e M44 a2 a3 (fun r52 M52 => wX1_wrongLetterOf_60 p1 Q k27 M52 a2 a3 ((p1 + (1 : Int32)) + a3) r52)))))))))
set_option maxHeartbeats 4000000 in
set_option maxRecDepth 100000 in
theorem tX1_wrongLetterOf_27 {l : Launch} {E : xE} {p1 : Int32} {Q : Int32 → xM → Prop} (n : Nat) : ∀ (M : xM) (a2 : Nat) (a3 : Int32), lX1_wrongLetterOf_27 p1 Q n M a2 a3 → Gx l E mX1_wrongLetterOf (xRi Q) 27 M [some (.ref 46), some (.int p1), some (.ref a2), some (.int a3), none, none] [] := by
  induction n with
  | zero => intro M a2 a3 h; exact h.elim
  | succ n hk27 =>
      intro M a2 a3 h
      unfold lX1_wrongLetterOf_27 at h
      dsimp only at h
      refine Gx_run (es := eX1_wrongLetterOf_27) (P := []) (M' := M) (L' := [some (.ref 46), some (.int p1), some (.ref a2), some (.int a3), none, none]) (st' := [.ref a2, .int a3]) (pc' := 29) kX1_wrongLetterOf_27 rfl trivial rfl ?_
      obtain ⟨g29_0, h⟩ := h
      refine Gx_callTp (As := []) (by decide +kernel) ml_1_37 okJ0_length_8abf5 mvJ0_length_8abf5 rfl (by decide) (Nat.le_of_ble_eq_true rfl) g29_0 rfl (tJ0_length_8abf5 g29_0 h) (fun rr M29 qq => ?_)
      obtain ⟨r29, rfl, h⟩ := qq
      show Gx l E mX1_wrongLetterOf _ 32 M29 [some (.ref 46), some (.int p1), some (.ref a2), some (.int a3), none, none] [.int r29, .int a3]
      refine Gx_icmp_gt (off := 62) (tgt := 94) (by decide +kernel) (by decide) (fun z => ?_) (fun z => ?_)
      · have h := h.1 z
        refine Gx_run (es := eX1_wrongLetterOf_94) (P := []) (M' := M29) (L' := [some (.ref 46), some (.int p1), some (.ref a2), some (.int a3), none, none]) (st' := [.int (-9 : Int32)]) (pc' := 96) kX1_wrongLetterOf_94 rfl trivial rfl ?_
        exact Gx_iret (by decide +kernel) rfl rfl ⟨_, rfl, h⟩
      · have h := h.2 z
        refine Gx_run (es := eX1_wrongLetterOf_35) (P := []) (M' := M29) (L' := [some (.ref 46), some (.int p1), some (.ref a2), some (.int a3), some (.int ((p1 + (1 : Int32)) + a3)), none]) (st' := [.ref a2, .int a3]) (pc' := 44) kX1_wrongLetterOf_35 rfl trivial rfl ?_
        obtain ⟨g44_0, h⟩ := h
        refine Gx_callTp (As := []) (by decide +kernel) ml_1_37 okJ0_length_8abf5 mvJ0_length_8abf5 rfl (by decide) (Nat.le_of_ble_eq_true rfl) g44_0 rfl (tJ0_length_8abf5 g44_0 h) (fun rr M44 qq => ?_)
        obtain ⟨r44, rfl, h⟩ := qq
        show Gx l E mX1_wrongLetterOf _ 47 M44 [some (.ref 46), some (.int p1), some (.ref a2), some (.int a3), some (.int ((p1 + (1 : Int32)) + a3)), none] [.int r44, .int a3]
        refine Gx_icmp_ge (off := 11) (tgt := 58) (by decide +kernel) (by decide) (fun z => ?_) (fun z => ?_)
        · have h := h.1 z
          refine Gx_run (es := eX1_wrongLetterOf_58) (P := []) (M' := M44) (L' := [some (.ref 46), some (.int p1), some (.ref a2), some (.int a3), some (.int ((p1 + (1 : Int32)) + a3)), none]) (st' := [.int (59 : Int32)]) (pc' := 60) kX1_wrongLetterOf_58 rfl trivial rfl ?_
          refine Gx_mask [true, true, true, true, true, false] (L' := [some (.ref 46), some (.int p1), some (.ref a2), some (.int a3), some (.int ((p1 + (1 : Int32)) + a3)), none]) rfl ?_
          exact tX1_wrongLetterOf_60  hk27 M44 a2 a3 ((p1 + (1 : Int32)) + a3) (59 : Int32) h
        · have h := h.2 z
          refine Gx_run (es := eX1_wrongLetterOf_50) (P := []) (M' := M44) (L' := [some (.ref 46), some (.int p1), some (.ref a2), some (.int a3), some (.int ((p1 + (1 : Int32)) + a3)), none]) (st' := [.int a3, .ref a2]) (pc' := 52) kX1_wrongLetterOf_50 rfl trivial rfl ?_
          obtain ⟨g52_0, h⟩ := h
          refine Gx_callTp (As := [.int a3]) (by decide +kernel) ml_1_55 okJ0_charAt_5068e mvJ0_charAt_5068e rfl (by decide) (Nat.le_of_ble_eq_true rfl) g52_0 rfl (tJ0_charAt_5068e g52_0 h) (fun rr M52 qq => ?_)
          obtain ⟨r52, rfl, h⟩ := qq
          show Gx l E mX1_wrongLetterOf _ 55 M52 [some (.ref 46), some (.int p1), some (.ref a2), some (.int a3), some (.int ((p1 + (1 : Int32)) + a3)), none] [.int r52]
          refine Gx_goto (off := 5) (tgt := 60) (by decide +kernel) (by decide) ?_
          refine Gx_mask [true, true, true, true, true, false] (L' := [some (.ref 46), some (.int p1), some (.ref a2), some (.int a3), some (.int ((p1 + (1 : Int32)) + a3)), none]) rfl ?_
          exact tX1_wrongLetterOf_60  hk27 M52 a2 a3 ((p1 + (1 : Int32)) + a3) r52 h
def wX1_wrongLetterOf (M : xM) (p1 : Int32) (Q : Int32 → xM → Prop) : Prop :=
    wX1_signAt M p1 (fun r4 M4 => wJ0_indexOf_0f7a4 M4 110 (r4.toUInt32 % 65536).toInt32 (fun r8 M8 => (((0 ≤ r8) → (wX1_signAt M8 p1 (fun r18 M18 => wX1_shapeOf M18 r18 (fun r21 M21 => (r21 ≠ 103) ∧ (∃ n : Nat, lX1_wrongLetterOf_27 p1 Q n M21 r21 (0 : Int32)))))) ∧ ((¬ 0 ≤ r8) → (Q p1 M8)))))
set_option maxHeartbeats 4000000 in
set_option maxRecDepth 100000 in
theorem tX1_wrongLetterOf {l : Launch} {E : xE} {M : xM} {p1 : Int32} {Q : Int32 → xM → Prop} (h : wX1_wrongLetterOf M p1 Q) : Ct l E mX1_wrongLetterOf [.ref 46, .int p1] M (xRi Q) := by
  refine Ct_of (by decide +kernel) rfl (Nat.le_of_ble_eq_true rfl) ?_
  unfold wX1_wrongLetterOf at h
  show Gx l E mX1_wrongLetterOf (xRi Q) 0 M [some (.ref 46), some (.int p1), none, none, none, none] []
  refine Gx_run (es := eX1_wrongLetterOf_0) (P := []) (M' := M) (L' := [some (.ref 46), some (.int p1), none, none, none, none]) (st' := [.int p1, .ref 46, .ref 110]) (pc' := 4) kX1_wrongLetterOf_0 rfl trivial rfl ?_
  refine Gx_callV (As := [.int p1]) (by decide +kernel) ml_1_19 okX1_signAt mvX1_signAt rfl (by decide) (Nat.le_of_ble_eq_true rfl) rfl rfl rfl (tX1_signAt h) (fun rr M4 qq => ?_)
  obtain ⟨r4, rfl, h⟩ := qq
  show Gx l E mX1_wrongLetterOf _ 7 M4 [some (.ref 46), some (.int p1), none, none, none, none] [.int r4, .ref 110]
  refine Gx_run (es := eX1_wrongLetterOf_7) (P := []) (M' := M4) (L' := [some (.ref 46), some (.int p1), none, none, none, none]) (st' := [.int (r4.toUInt32 % 65536).toInt32, .ref 110]) (pc' := 8) kX1_wrongLetterOf_7 rfl trivial rfl ?_
  refine Gx_callTp (As := [.int (r4.toUInt32 % 65536).toInt32]) (by decide +kernel) ml_1_28 okJ0_indexOf_0f7a4 mvJ0_indexOf_0f7a4 rfl (by decide) (Nat.le_of_ble_eq_true rfl) (show 110 ≤ 110 ∧ 110 < 119 by decide) rfl (tJ0_indexOf_0f7a4 (show 110 ≤ 110 ∧ 110 < 119 by decide) h) (fun rr M8 qq => ?_)
  obtain ⟨r8, rfl, h⟩ := qq
  show Gx l E mX1_wrongLetterOf _ 11 M8 [some (.ref 46), some (.int p1), none, none, none, none] [.int r8]
  refine Gx_if_ge (off := 5) (tgt := 16) (by decide +kernel) (by decide) (fun z => ?_) (fun z => ?_)
  · have h := h.1 z
    refine Gx_run (es := eX1_wrongLetterOf_16) (P := []) (M' := M8) (L' := [some (.ref 46), some (.int p1), none, none, none, none]) (st' := [.int p1, .ref 46]) (pc' := 18) kX1_wrongLetterOf_16 rfl trivial rfl ?_
    refine Gx_callV (As := [.int p1]) (by decide +kernel) ml_1_19 okX1_signAt mvX1_signAt rfl (by decide) (Nat.le_of_ble_eq_true rfl) rfl rfl rfl (tX1_signAt h) (fun rr M18 qq => ?_)
    obtain ⟨r18, rfl, h⟩ := qq
    show Gx l E mX1_wrongLetterOf _ 21 M18 [some (.ref 46), some (.int p1), none, none, none, none] [.int r18]
    refine Gx_callS (As := [.int r18]) (by decide +kernel) ml_1_33 okX1_shapeOf mvX1_shapeOf rfl (by decide) (Nat.le_of_ble_eq_true rfl) (tX1_shapeOf h) (fun rr M21 qq => ?_)
    obtain ⟨r21, rfl, h⟩ := qq
    show Gx l E mX1_wrongLetterOf _ 24 M21 [some (.ref 46), some (.int p1), none, none, none, none] [.ref r21]
    obtain ⟨g24_0, h⟩ := h
    refine Gx_run (es := eX1_wrongLetterOf_24) (P := [r21 ≠ 103]) (M' := M21) (L' := [some (.ref 46), some (.int p1), some (.ref r21), some (.int (0 : Int32)), none, none]) (st' := []) (pc' := 27) kX1_wrongLetterOf_24 rfl ⟨g24_0, trivial⟩ rfl ?_
    refine Gx_mask [true, true, true, true, false, false] (L' := [some (.ref 46), some (.int p1), some (.ref r21), some (.int (0 : Int32)), none, none]) rfl ?_
    obtain ⟨n, h⟩ := h
    exact tX1_wrongLetterOf_27  n M21 r21 (0 : Int32) h
  · have h := h.2 z
    refine Gx_run (es := eX1_wrongLetterOf_14) (P := []) (M' := M8) (L' := [some (.ref 46), some (.int p1), none, none, none, none]) (st' := [.int p1]) (pc' := 15) kX1_wrongLetterOf_14 rfl trivial rfl ?_
    exact Gx_iret (by decide +kernel) rfl rfl ⟨_, rfl, h⟩
