/-! walks: X1_signAt, X2_blocksPointedAt, X2_emptySlotOf, X2_enter, X2_enteredBy, X2_entriesIn, X2_inodesInUse, X2_isDirectory, X2_placeOfEntryTo, X2_pointAt, X2_pointersTo, X2_wipe, X3_clear, X3_draw, X3_isOutside, X3_power -/
def eX1_signAt_0 : List xI := [(.iload_n 1, 1, 0, 0, 0)]
theorem kX1_signAt_0 : xcode (xmb mX1_signAt) (xmo mX1_signAt) 0 eX1_signAt_0 = true := by decide +kernel
def eX1_signAt_21 : List xI := [(.iconst 0, 1, 0, 0, (0))]
theorem kX1_signAt_21 : xcode (xmb mX1_signAt) (xmo mX1_signAt) 21 eX1_signAt_21 = true := by decide +kernel
def eX1_signAt_4 : List xI := [(.iload_n 1, 1, 0, 0, 0), (.aload_n 0, 1, 0, 0, 0), (.getfield 15, 3, 1, 1, 0)]
theorem kX1_signAt_4 : xcode (xmb mX1_signAt) (xmo mX1_signAt) 4 eX1_signAt_4 = true := by decide +kernel
def eX1_signAt_12 : List xI := [(.aload_n 0, 1, 0, 0, 0), (.getfield 9, 3, 1, 0, 0), (.iload_n 1, 1, 0, 0, 0), (.iaload, 1, 0, 0, 0)]
theorem kX1_signAt_12 : xcode (xmb mX1_signAt) (xmo mX1_signAt) 12 eX1_signAt_12 = true := by decide +kernel
def wX1_signAt_22 (p1 : Int32) (Q : Int32 → xM → Prop) (M : xM) (s0 : Int32) : Prop :=
    Q s0 M
set_option maxHeartbeats 4000000 in
set_option maxRecDepth 100000 in
theorem tX1_signAt_22 {l : Launch} {E : xE} {p1 : Int32} {Q : Int32 → xM → Prop} (M : xM) (s0 : Int32) (h : wX1_signAt_22 p1 Q M s0) : Gx l E mX1_signAt (xRi Q) 22 M [none, none] [.int s0] := by
  unfold wX1_signAt_22 at h
  exact Gx_iret (by decide +kernel) rfl rfl ⟨_, rfl, h⟩
def wX1_signAt_21 (p1 : Int32) (Q : Int32 → xM → Prop) (M : xM) : Prop :=
    wX1_signAt_22 p1 Q M (0 : Int32)
set_option maxHeartbeats 4000000 in
set_option maxRecDepth 100000 in
theorem tX1_signAt_21 {l : Launch} {E : xE} {p1 : Int32} {Q : Int32 → xM → Prop} (M : xM) (h : wX1_signAt_21 p1 Q M ) : Gx l E mX1_signAt (xRi Q) 21 M [none, none] [] := by
  unfold wX1_signAt_21 at h
  refine Gx_run (es := eX1_signAt_21) (P := []) (M' := M) (L' := [none, none]) (st' := [.int (0 : Int32)]) (pc' := 22) kX1_signAt_21 rfl trivial rfl ?_
  refine Gx_mask [false, false] (L' := [none, none]) rfl ?_
  exact tX1_signAt_22  M (0 : Int32) h
def wX1_signAt (M : xM) (p1 : Int32) (Q : Int32 → xM → Prop) : Prop :=
    (((p1 < 0) → (wX1_signAt_21 p1 Q M)) ∧ ((¬ p1 < 0) → (((((M 46 1) ≤ p1) → (wX1_signAt_21 p1 Q M)) ∧ ((¬ (M 46 1) ≤ p1) → ((vp_in p1 96) ∧ wX1_signAt_22 p1 Q M (M 47 p1.toNatClampNeg)))))))
set_option maxHeartbeats 4000000 in
set_option maxRecDepth 100000 in
theorem tX1_signAt {l : Launch} {E : xE} {M : xM} {p1 : Int32} {Q : Int32 → xM → Prop} (h : wX1_signAt M p1 Q) : Ct l E mX1_signAt [.ref 46, .int p1] M (xRi Q) := by
  refine Ct_of (by decide +kernel) rfl (Nat.le_of_ble_eq_true rfl) ?_
  unfold wX1_signAt at h
  show Gx l E mX1_signAt (xRi Q) 0 M [some (.ref 46), some (.int p1)] []
  refine Gx_run (es := eX1_signAt_0) (P := []) (M' := M) (L' := [some (.ref 46), some (.int p1)]) (st' := [.int p1]) (pc' := 1) kX1_signAt_0 rfl trivial rfl ?_
  refine Gx_if_lt (off := 20) (tgt := 21) (by decide +kernel) (by decide) (fun z => ?_) (fun z => ?_)
  · have h := h.1 z
    refine Gx_mask [false, false] (L' := [none, none]) rfl ?_
    exact tX1_signAt_21  M h
  · have h := h.2 z
    refine Gx_run (es := eX1_signAt_4) (P := [xkd 46 = 1]) (M' := M) (L' := [some (.ref 46), some (.int p1)]) (st' := [.int (M 46 1), .int p1]) (pc' := 9) kX1_signAt_4 rfl ⟨rfl, trivial⟩ rfl ?_
    refine Gx_icmp_ge (off := 12) (tgt := 21) (by decide +kernel) (by decide) (fun z => ?_) (fun z => ?_)
    · have h := h.1 z
      refine Gx_mask [false, false] (L' := [none, none]) rfl ?_
      exact tX1_signAt_21  M h
    · have h := h.2 z
      obtain ⟨g12_0, h⟩ := h
      refine Gx_run (es := eX1_signAt_12) (P := [xkd 46 = 1, xkd 47 = 5, vp_in p1 (xln 47)]) (M' := M) (L' := [some (.ref 46), some (.int p1)]) (st' := [.int (M 47 p1.toNatClampNeg)]) (pc' := 18) kX1_signAt_12 rfl ⟨rfl, rfl, g12_0, trivial⟩ rfl ?_
      refine Gx_goto (off := 4) (tgt := 22) (by decide +kernel) (by decide) ?_
      refine Gx_mask [false, false] (L' := [none, none]) rfl ?_
      exact tX1_signAt_22  M (M 47 p1.toNatClampNeg) h
def eX2_blocksPointedAt_0 : List xI := [(.iconst 0, 1, 0, 0, (0)), (.istore_n 1, 1, 0, 0, 0), (.iconst 0, 1, 0, 0, (0)), (.istore_n 2, 1, 0, 0, 0)]
theorem kX2_blocksPointedAt_0 : xcode (xmb mX2_blocksPointedAt) (xmo mX2_blocksPointedAt) 0 eX2_blocksPointedAt_0 = true := by decide +kernel
def eX2_blocksPointedAt_4 : List xI := [(.iload_n 2, 1, 0, 0, 0), (.aload_n 0, 1, 0, 0, 0), (.getfield 21, 3, 2, 3, 0), (.arraylength, 1, 0, 0, 0)]
theorem kX2_blocksPointedAt_4 : xcode (xmb mX2_blocksPointedAt) (xmo mX2_blocksPointedAt) 4 eX2_blocksPointedAt_4 = true := by decide +kernel
def eX2_blocksPointedAt_46 : List xI := [(.iload_n 1, 1, 0, 0, 0)]
theorem kX2_blocksPointedAt_46 : xcode (xmb mX2_blocksPointedAt) (xmo mX2_blocksPointedAt) 46 eX2_blocksPointedAt_46 = true := by decide +kernel
def eX2_blocksPointedAt_13 : List xI := [(.aload_n 0, 1, 0, 0, 0), (.getfield 21, 3, 2, 3, 0), (.iload_n 2, 1, 0, 0, 0), (.iaload, 1, 0, 0, 0), (.istore_n 3, 1, 0, 0, 0), (.iload_n 1, 1, 0, 0, 0), (.iload_n 3, 1, 0, 0, 0)]
theorem kX2_blocksPointedAt_13 : xcode (xmb mX2_blocksPointedAt) (xmo mX2_blocksPointedAt) 13 eX2_blocksPointedAt_13 = true := by decide +kernel
def eX2_blocksPointedAt_37 : List xI := [(.iconst 0, 1, 0, 0, (0))]
theorem kX2_blocksPointedAt_37 : xcode (xmb mX2_blocksPointedAt) (xmo mX2_blocksPointedAt) 37 eX2_blocksPointedAt_37 = true := by decide +kernel
def eX2_blocksPointedAt_38 : List xI := [(.ior, 1, 0, 0, 0), (.istore_n 1, 1, 0, 0, 0), (.iinc 2 1, 3, 0, 0, (1))]
theorem kX2_blocksPointedAt_38 : xcode (xmb mX2_blocksPointedAt) (xmo mX2_blocksPointedAt) 38 eX2_blocksPointedAt_38 = true := by decide +kernel
def eX2_blocksPointedAt_25 : List xI := [(.iload_n 3, 1, 0, 0, 0), (.bipush 24, 2, 0, 0, (24))]
theorem kX2_blocksPointedAt_25 : xcode (xmb mX2_blocksPointedAt) (xmo mX2_blocksPointedAt) 25 eX2_blocksPointedAt_25 = true := by decide +kernel
def eX2_blocksPointedAt_31 : List xI := [(.iconst 1, 1, 0, 0, (1)), (.iload_n 3, 1, 0, 0, 0), (.ishl, 1, 0, 0, 0)]
theorem kX2_blocksPointedAt_31 : xcode (xmb mX2_blocksPointedAt) (xmo mX2_blocksPointedAt) 31 eX2_blocksPointedAt_31 = true := by decide +kernel
def wX2_blocksPointedAt_38 (v : Nat) (Q : Int32 → xM → Prop) (k4 : xM → Int32 → Int32 → Prop) (M : xM) (a2 : Int32) (s0 : Int32) (s1 : Int32) : Prop :=
    k4 M (s1 ||| s0) (a2 + (1 : Int32))
set_option maxHeartbeats 4000000 in
set_option maxRecDepth 100000 in
theorem tX2_blocksPointedAt_38 {l : Launch} {E : xE} {v : Nat} {Q : Int32 → xM → Prop} {k4 : xM → Int32 → Int32 → Prop} (h_v : xVol v) (hk4 : ∀ (M : xM) (a1 : Int32) (a2 : Int32), k4 M a1 a2 → Gx l E mX2_blocksPointedAt (xRi Q) 4 M [some (.ref v), some (.int a1), some (.int a2), none] []) (M : xM) (a2 : Int32) (s0 : Int32) (s1 : Int32) (h : wX2_blocksPointedAt_38 v Q k4 M a2 s0 s1) : Gx l E mX2_blocksPointedAt (xRi Q) 38 M [some (.ref v), none, some (.int a2), none] [.int s0, .int s1] := by
  unfold wX2_blocksPointedAt_38 at h
  refine Gx_run (es := eX2_blocksPointedAt_38) (P := []) (M' := M) (L' := [some (.ref v), some (.int (s1 ||| s0)), some (.int (a2 + (1 : Int32))), none]) (st' := []) (pc' := 43) kX2_blocksPointedAt_38 rfl trivial rfl ?_
  refine Gx_goto (off := -39) (tgt := 4) (by decide +kernel) (by decide) ?_
  refine Gx_mask [true, true, true, false] (L' := [some (.ref v), some (.int (s1 ||| s0)), some (.int (a2 + (1 : Int32))), none]) rfl ?_
  exact hk4 M (s1 ||| s0) (a2 + (1 : Int32)) h
def wX2_blocksPointedAt_37 (v : Nat) (Q : Int32 → xM → Prop) (k4 : xM → Int32 → Int32 → Prop) (M : xM) (a2 : Int32) (s0 : Int32) : Prop :=
    wX2_blocksPointedAt_38 v Q k4 M a2 (0 : Int32) s0
set_option maxHeartbeats 4000000 in
set_option maxRecDepth 100000 in
theorem tX2_blocksPointedAt_37 {l : Launch} {E : xE} {v : Nat} {Q : Int32 → xM → Prop} {k4 : xM → Int32 → Int32 → Prop} (h_v : xVol v) (hk4 : ∀ (M : xM) (a1 : Int32) (a2 : Int32), k4 M a1 a2 → Gx l E mX2_blocksPointedAt (xRi Q) 4 M [some (.ref v), some (.int a1), some (.int a2), none] []) (M : xM) (a2 : Int32) (s0 : Int32) (h : wX2_blocksPointedAt_37 v Q k4 M a2 s0) : Gx l E mX2_blocksPointedAt (xRi Q) 37 M [some (.ref v), none, some (.int a2), none] [.int s0] := by
  unfold wX2_blocksPointedAt_37 at h
  refine Gx_run (es := eX2_blocksPointedAt_37) (P := []) (M' := M) (L' := [some (.ref v), none, some (.int a2), none]) (st' := [.int (0 : Int32), .int s0]) (pc' := 38) kX2_blocksPointedAt_37 rfl trivial rfl ?_
  refine Gx_mask [true, false, true, false] (L' := [some (.ref v), none, some (.int a2), none]) rfl ?_
  exact tX2_blocksPointedAt_38 h_v  hk4 M a2 (0 : Int32) s0 h
def lX2_blocksPointedAt_4 (v : Nat) (Q : Int32 → xM → Prop) : Nat → xM → Int32 → Int32 → Prop
  | 0 => fun _ _ _ => False
  | n + 1 => let k4 := lX2_blocksPointedAt_4 v Q n; fun M a1 a2 =>
    ((((nI (xln (v + 4))) ≤ a2) → (Q a1 M)) ∧ ((¬ (nI (xln (v + 4))) ≤ a2) → ((vp_in a2 30) ∧ ((((M (v + 4) a2.toNatClampNeg) < 0) → (wX2_blocksPointedAt_37 v Q k4 M a2 a1)) ∧ ((¬ (M (v + 4) a2.toNatClampNeg) < 0) → (((((24 : Int32) ≤ (M (v + 4) a2.toNatClampNeg)) → (wX2_blocksPointedAt_37 v Q k4 M a2 a1)) ∧ ((¬ (24 : Int32) ≤ (M (v + 4) a2.toNatClampNeg)) → (wX2_blocksPointedAt_38 v Q k4 M a2 ((1 : Int32) <<< ((M (v + 4) a2.toNatClampNeg) &&& 31)) a1)))))))))
set_option maxHeartbeats 4000000 in
set_option maxRecDepth 100000 in
theorem tX2_blocksPointedAt_4 {l : Launch} {E : xE} {v : Nat} {Q : Int32 → xM → Prop} (h_v : xVol v) (n : Nat) : ∀ (M : xM) (a1 : Int32) (a2 : Int32), lX2_blocksPointedAt_4 v Q n M a1 a2 → Gx l E mX2_blocksPointedAt (xRi Q) 4 M [some (.ref v), some (.int a1), some (.int a2), none] [] := by
  induction n with
  | zero => intro M a1 a2 h; exact h.elim
  | succ n hk4 =>
      intro M a1 a2 h
      unfold lX2_blocksPointedAt_4 at h
      dsimp only at h
      refine Gx_run (es := eX2_blocksPointedAt_4) (P := [xkd v = 2, xkd (v + 4) = 5]) (M' := M) (L' := [some (.ref v), some (.int a1), some (.int a2), none]) (st' := [.int (nI (xln (v + 4))), .int a2]) (pc' := 10) kX2_blocksPointedAt_4 rfl ⟨(xVol_0 h_v), (xVol_4 h_v), trivial⟩ rfl ?_
      refine Gx_icmp_ge (off := 36) (tgt := 46) (by decide +kernel) (by decide) (fun z => ?_) (fun z => ?_)
      · have h := h.1 z
        refine Gx_run (es := eX2_blocksPointedAt_46) (P := []) (M' := M) (L' := [some (.ref v), some (.int a1), some (.int a2), none]) (st' := [.int a1]) (pc' := 47) kX2_blocksPointedAt_46 rfl trivial rfl ?_
        exact Gx_iret (by decide +kernel) rfl rfl ⟨_, rfl, h⟩
      · have h := h.2 z
        obtain ⟨g13_0, h⟩ := h
        refine Gx_run (es := eX2_blocksPointedAt_13) (P := [xkd v = 2, xkd (v + 4) = 5, vp_in a2 (xln (v + 4))]) (M' := M) (L' := [some (.ref v), some (.int a1), some (.int a2), some (.int (M (v + 4) a2.toNatClampNeg))]) (st' := [.int (M (v + 4) a2.toNatClampNeg), .int a1]) (pc' := 22) kX2_blocksPointedAt_13 rfl ⟨(xVol_0 h_v), (xVol_4 h_v), (by rw [xVol_l4 h_v]; exact g13_0), trivial⟩ rfl ?_
        refine Gx_if_lt (off := 15) (tgt := 37) (by decide +kernel) (by decide) (fun z => ?_) (fun z => ?_)
        · have h := h.1 z
          refine Gx_mask [true, false, true, false] (L' := [some (.ref v), none, some (.int a2), none]) rfl ?_
          exact tX2_blocksPointedAt_37 h_v  hk4 M a2 a1 h
        · have h := h.2 z
          refine Gx_run (es := eX2_blocksPointedAt_25) (P := []) (M' := M) (L' := [some (.ref v), some (.int a1), some (.int a2), some (.int (M (v + 4) a2.toNatClampNeg))]) (st' := [.int (24 : Int32), .int (M (v + 4) a2.toNatClampNeg), .int a1]) (pc' := 28) kX2_blocksPointedAt_25 rfl trivial rfl ?_
          refine Gx_icmp_ge (off := 9) (tgt := 37) (by decide +kernel) (by decide) (fun z => ?_) (fun z => ?_)
          · have h := h.1 z
            refine Gx_mask [true, false, true, false] (L' := [some (.ref v), none, some (.int a2), none]) rfl ?_
            exact tX2_blocksPointedAt_37 h_v  hk4 M a2 a1 h
          · have h := h.2 z
            refine Gx_run (es := eX2_blocksPointedAt_31) (P := []) (M' := M) (L' := [some (.ref v), some (.int a1), some (.int a2), some (.int (M (v + 4) a2.toNatClampNeg))]) (st' := [.int ((1 : Int32) <<< ((M (v + 4) a2.toNatClampNeg) &&& 31)), .int a1]) (pc' := 34) kX2_blocksPointedAt_31 rfl trivial rfl ?_
            refine Gx_goto (off := 4) (tgt := 38) (by decide +kernel) (by decide) ?_
            refine Gx_mask [true, false, true, false] (L' := [some (.ref v), none, some (.int a2), none]) rfl ?_
            exact tX2_blocksPointedAt_38 h_v  hk4 M a2 ((1 : Int32) <<< ((M (v + 4) a2.toNatClampNeg) &&& 31)) a1 h
def wX2_blocksPointedAt (M : xM) (v : Nat) (Q : Int32 → xM → Prop) : Prop :=
    (∃ n : Nat, lX2_blocksPointedAt_4 v Q n M (0 : Int32) (0 : Int32))
set_option maxHeartbeats 4000000 in
set_option maxRecDepth 100000 in
theorem tX2_blocksPointedAt {l : Launch} {E : xE} {M : xM} {v : Nat} {Q : Int32 → xM → Prop} (h_v : xVol v) (h : wX2_blocksPointedAt M v Q) : Ct l E mX2_blocksPointedAt [.ref v] M (xRi Q) := by
  refine Ct_of (by decide +kernel) rfl (Nat.le_of_ble_eq_true rfl) ?_
  unfold wX2_blocksPointedAt at h
  show Gx l E mX2_blocksPointedAt (xRi Q) 0 M [some (.ref v), none, none, none] []
  refine Gx_run (es := eX2_blocksPointedAt_0) (P := []) (M' := M) (L' := [some (.ref v), some (.int (0 : Int32)), some (.int (0 : Int32)), none]) (st' := []) (pc' := 4) kX2_blocksPointedAt_0 rfl trivial rfl ?_
  refine Gx_mask [true, true, true, false] (L' := [some (.ref v), some (.int (0 : Int32)), some (.int (0 : Int32)), none]) rfl ?_
  obtain ⟨n, h⟩ := h
  exact tX2_blocksPointedAt_4 h_v  n M (0 : Int32) (0 : Int32) h
def eX2_emptySlotOf_0 : List xI := [(.getstatic 89, 3, 1, 0, 0), (.aload_n 0, 1, 0, 0, 0), (.getfield 9, 3, 2, 0, 0), (.iload_n 1, 1, 0, 0, 0), (.iaload, 1, 0, 0, 0), (.iaload, 1, 2, 0, 0), (.istore_n 2, 1, 0, 0, 0), (.iconst 0, 1, 0, 0, (0)), (.istore_n 3, 1, 0, 0, 0)]
theorem kX2_emptySlotOf_0 : xcode (xmb mX2_emptySlotOf) (xmo mX2_emptySlotOf) 0 eX2_emptySlotOf_0 = true := by decide +kernel
def eX2_emptySlotOf_13 : List xI := [(.iload_n 3, 1, 0, 0, 0), (.iload_n 2, 1, 0, 0, 0)]
theorem kX2_emptySlotOf_13 : xcode (xmb mX2_emptySlotOf) (xmo mX2_emptySlotOf) 13 eX2_emptySlotOf_13 = true := by decide +kernel
def eX2_emptySlotOf_42 : List xI := [(.bipush (-9), 2, 0, 0, (-9))]
theorem kX2_emptySlotOf_42 : xcode (xmb mX2_emptySlotOf) (xmo mX2_emptySlotOf) 42 eX2_emptySlotOf_42 = true := by decide +kernel
def eX2_emptySlotOf_18 : List xI := [(.aload_n 0, 1, 0, 0, 0), (.getfield 24, 3, 2, 4, 0), (.bipush 6, 2, 0, 0, (6)), (.iload_n 1, 1, 0, 0, 0), (.imul, 1, 0, 0, 0), (.iload_n 3, 1, 0, 0, 0), (.iadd, 1, 0, 0, 0), (.iaload, 1, 0, 0, 0), (.bipush (-9), 2, 0, 0, (-9))]
theorem kX2_emptySlotOf_18 : xcode (xmb mX2_emptySlotOf) (xmo mX2_emptySlotOf) 18 eX2_emptySlotOf_18 = true := by decide +kernel
def eX2_emptySlotOf_36 : List xI := [(.iinc 3 1, 3, 0, 0, (1))]
theorem kX2_emptySlotOf_36 : xcode (xmb mX2_emptySlotOf) (xmo mX2_emptySlotOf) 36 eX2_emptySlotOf_36 = true := by decide +kernel
def eX2_emptySlotOf_34 : List xI := [(.iload_n 3, 1, 0, 0, 0)]
theorem kX2_emptySlotOf_34 : xcode (xmb mX2_emptySlotOf) (xmo mX2_emptySlotOf) 34 eX2_emptySlotOf_34 = true := by decide +kernel
def lX2_emptySlotOf_13 (v : Nat) (p1 : Int32) (Q : Int32 → xM → Prop) : Nat → xM → Int32 → Int32 → Prop
  | 0 => fun _ _ _ => False
  | n + 1 => let k13 := lX2_emptySlotOf_13 v p1 Q n; fun M a2 a3 =>
    (((a2 ≤ a3) → (Q (-9 : Int32) M)) ∧ ((¬ a2 ≤ a3) → ((vp_in (((6 : Int32) * p1) + a3) 60) ∧ (((¬ (M (v + 5) (((6 : Int32) * p1) + a3).toNatClampNeg) = (-9 : Int32)) → (k13 M a2 (a3 + (1 : Int32)))) ∧ (((M (v + 5) (((6 : Int32) * p1) + a3).toNatClampNeg) = (-9 : Int32)) → (Q a3 M))))))
set_option maxHeartbeats 4000000 in
set_option maxRecDepth 100000 in
theorem tX2_emptySlotOf_13 {l : Launch} {E : xE} {v : Nat} {p1 : Int32} {Q : Int32 → xM → Prop} (h_v : xVol v) (n : Nat) : ∀ (M : xM) (a2 : Int32) (a3 : Int32), lX2_emptySlotOf_13 v p1 Q n M a2 a3 → Gx l E mX2_emptySlotOf (xRi Q) 13 M [some (.ref v), some (.int p1), some (.int a2), some (.int a3)] [] := by
  induction n with
  | zero => intro M a2 a3 h; exact h.elim
  | succ n hk13 =>
      intro M a2 a3 h
      unfold lX2_emptySlotOf_13 at h
      dsimp only at h
      refine Gx_run (es := eX2_emptySlotOf_13) (P := []) (M' := M) (L' := [some (.ref v), some (.int p1), some (.int a2), some (.int a3)]) (st' := [.int a2, .int a3]) (pc' := 15) kX2_emptySlotOf_13 rfl trivial rfl ?_
      refine Gx_icmp_ge (off := 27) (tgt := 42) (by decide +kernel) (by decide) (fun z => ?_) (fun z => ?_)
      · have h := h.1 z
        refine Gx_run (es := eX2_emptySlotOf_42) (P := []) (M' := M) (L' := [some (.ref v), some (.int p1), some (.int a2), some (.int a3)]) (st' := [.int (-9 : Int32)]) (pc' := 44) kX2_emptySlotOf_42 rfl trivial rfl ?_
        exact Gx_iret (by decide +kernel) rfl rfl ⟨_, rfl, h⟩
      · have h := h.2 z
        obtain ⟨g18_0, h⟩ := h
        refine Gx_run (es := eX2_emptySlotOf_18) (P := [xkd v = 2, xkd (v + 5) = 5, vp_in (((6 : Int32) * p1) + a3) (xln (v + 5))]) (M' := M) (L' := [some (.ref v), some (.int p1), some (.int a2), some (.int a3)]) (st' := [.int (-9 : Int32), .int (M (v + 5) (((6 : Int32) * p1) + a3).toNatClampNeg)]) (pc' := 31) kX2_emptySlotOf_18 rfl ⟨(xVol_0 h_v), (xVol_5 h_v), (by rw [xVol_l5 h_v]; exact g18_0), trivial⟩ rfl ?_
        refine Gx_icmp_ne (off := 5) (tgt := 36) (by decide +kernel) (by decide) (fun z => ?_) (fun z => ?_)
        · have h := h.1 z
          refine Gx_run (es := eX2_emptySlotOf_36) (P := []) (M' := M) (L' := [some (.ref v), some (.int p1), some (.int a2), some (.int (a3 + (1 : Int32)))]) (st' := []) (pc' := 39) kX2_emptySlotOf_36 rfl trivial rfl ?_
          refine Gx_goto (off := -26) (tgt := 13) (by decide +kernel) (by decide) ?_
          refine Gx_mask [true, true, true, true] (L' := [some (.ref v), some (.int p1), some (.int a2), some (.int (a3 + (1 : Int32)))]) rfl ?_
          exact hk13 M a2 (a3 + (1 : Int32)) h
        · have h := h.2 z
          refine Gx_run (es := eX2_emptySlotOf_34) (P := []) (M' := M) (L' := [some (.ref v), some (.int p1), some (.int a2), some (.int a3)]) (st' := [.int a3]) (pc' := 35) kX2_emptySlotOf_34 rfl trivial rfl ?_
          exact Gx_iret (by decide +kernel) rfl rfl ⟨_, rfl, h⟩
def wX2_emptySlotOf (M : xM) (v : Nat) (p1 : Int32) (Q : Int32 → xM → Prop) : Prop :=
    (vp_in p1 10) ∧ (vp_in (M (v + 1) p1.toNatClampNeg) 6) ∧ (∃ n : Nat, lX2_emptySlotOf_13 v p1 Q n M (xlist (M (v + 1) p1.toNatClampNeg).toNatClampNeg) (0 : Int32))
set_option maxHeartbeats 4000000 in
set_option maxRecDepth 100000 in
theorem tX2_emptySlotOf {l : Launch} {E : xE} {M : xM} {v : Nat} {p1 : Int32} {Q : Int32 → xM → Prop} (h_v : xVol v) (h : wX2_emptySlotOf M v p1 Q) : Ct l E mX2_emptySlotOf [.ref v, .int p1] M (xRi Q) := by
  refine Ct_of (by decide +kernel) rfl (Nat.le_of_ble_eq_true rfl) ?_
  unfold wX2_emptySlotOf at h
  show Gx l E mX2_emptySlotOf (xRi Q) 0 M [some (.ref v), some (.int p1), none, none] []
  obtain ⟨g0_0, g0_1, h⟩ := h
  refine Gx_run (es := eX2_emptySlotOf_0) (P := [xkd v = 2, xkd (v + 1) = 5, vp_in p1 (xln (v + 1)), 101 = 101, vp_in (M (v + 1) p1.toNatClampNeg) 6]) (M' := M) (L' := [some (.ref v), some (.int p1), some (.int (xlist (M (v + 1) p1.toNatClampNeg).toNatClampNeg)), some (.int (0 : Int32))]) (st' := []) (pc' := 13) kX2_emptySlotOf_0 rfl ⟨(xVol_0 h_v), (xVol_1 h_v), (by rw [xVol_l1 h_v]; exact g0_0), rfl, g0_1, trivial⟩ rfl ?_
  refine Gx_mask [true, true, true, true] (L' := [some (.ref v), some (.int p1), some (.int (xlist (M (v + 1) p1.toNatClampNeg).toNatClampNeg)), some (.int (0 : Int32))]) rfl ?_
  obtain ⟨n, h⟩ := h
  exact tX2_emptySlotOf_13 h_v  n M (xlist (M (v + 1) p1.toNatClampNeg).toNatClampNeg) (0 : Int32) h
def eX2_enter_0 : List xI := [(.aload_n 0, 1, 0, 0, 0), (.getfield 24, 3, 2, 4, 0), (.bipush 6, 2, 0, 0, (6)), (.iload_n 1, 1, 0, 0, 0), (.imul, 1, 0, 0, 0), (.iload_n 2, 1, 0, 0, 0), (.iadd, 1, 0, 0, 0), (.bipush 26, 2, 0, 0, (26)), (.iload 4, 2, 0, 0, 0), (.imul, 1, 0, 0, 0), (.iload_n 3, 1, 0, 0, 0), (.iadd, 1, 0, 0, 0), (.iastore, 1, 0, 0, 0)]
theorem kX2_enter_0 : xcode (xmb mX2_enter) (xmo mX2_enter) 0 eX2_enter_0 = true := by decide +kernel
def wX2_enter (M : xM) (v : Nat) (p1 : Int32) (p2 : Int32) (p3 : Int32) (p4 : Int32) (Q : xM → Prop) : Prop :=
    (vp_in (((6 : Int32) * p1) + p2) 60) ∧ Q (xup M (v + 5) (((6 : Int32) * p1) + p2).toNatClampNeg (((26 : Int32) * p4) + p3))
set_option maxHeartbeats 4000000 in
set_option maxRecDepth 100000 in
theorem tX2_enter {l : Launch} {E : xE} {M : xM} {v : Nat} {p1 : Int32} {p2 : Int32} {p3 : Int32} {p4 : Int32} {Q : xM → Prop} (h_v : xVol v) (h : wX2_enter M v p1 p2 p3 p4 Q) : Ct l E mX2_enter [.ref v, .int p1, .int p2, .int p3, .int p4] M (xRv Q) := by
  refine Ct_of (by decide +kernel) rfl (Nat.le_of_ble_eq_true rfl) ?_
  unfold wX2_enter at h
  show Gx l E mX2_enter (xRv Q) 0 M [some (.ref v), some (.int p1), some (.int p2), some (.int p3), some (.int p4)] []
  obtain ⟨g0_0, h⟩ := h
  refine Gx_run (es := eX2_enter_0) (P := [xkd v = 2, xkd (v + 5) = 5, vp_in (((6 : Int32) * p1) + p2) (xln (v + 5))]) (M' := (xup M (v + 5) (((6 : Int32) * p1) + p2).toNatClampNeg (((26 : Int32) * p4) + p3))) (L' := [some (.ref v), some (.int p1), some (.int p2), some (.int p3), some (.int p4)]) (st' := []) (pc' := 18) kX2_enter_0 rfl ⟨(xVol_0 h_v), (xVol_5 h_v), (by rw [xVol_l5 h_v]; exact g0_0), trivial⟩ rfl ?_
  exact Gx_vret (by decide +kernel) rfl ⟨rfl, h⟩
def eX2_enteredBy_0 : List xI := [(.iconst 0, 1, 0, 0, (0)), (.istore_n 2, 1, 0, 0, 0), (.iconst 0, 1, 0, 0, (0)), (.istore_n 3, 1, 0, 0, 0)]
theorem kX2_enteredBy_0 : xcode (xmb mX2_enteredBy) (xmo mX2_enteredBy) 0 eX2_enteredBy_0 = true := by decide +kernel
def eX2_enteredBy_4 : List xI := [(.iload_n 3, 1, 0, 0, 0), (.bipush 6, 2, 0, 0, (6))]
theorem kX2_enteredBy_4 : xcode (xmb mX2_enteredBy) (xmo mX2_enteredBy) 4 eX2_enteredBy_4 = true := by decide +kernel
def eX2_enteredBy_50 : List xI := [(.iload_n 2, 1, 0, 0, 0)]
theorem kX2_enteredBy_50 : xcode (xmb mX2_enteredBy) (xmo mX2_enteredBy) 50 eX2_enteredBy_50 = true := by decide +kernel
def eX2_enteredBy_10 : List xI := [(.aload_n 0, 1, 0, 0, 0), (.getfield 24, 3, 2, 4, 0), (.bipush 6, 2, 0, 0, (6)), (.iload_n 1, 1, 0, 0, 0), (.imul, 1, 0, 0, 0), (.iload_n 3, 1, 0, 0, 0), (.iadd, 1, 0, 0, 0), (.iaload, 1, 0, 0, 0), (.istore 4, 2, 0, 0, 0), (.iload_n 2, 1, 0, 0, 0), (.iload 4, 2, 0, 0, 0), (.bipush (-9), 2, 0, 0, (-9))]
theorem kX2_enteredBy_10 : xcode (xmb mX2_enteredBy) (xmo mX2_enteredBy) 10 eX2_enteredBy_10 = true := by decide +kernel
def eX2_enteredBy_41 : List xI := [(.iconst 0, 1, 0, 0, (0))]
theorem kX2_enteredBy_41 : xcode (xmb mX2_enteredBy) (xmo mX2_enteredBy) 41 eX2_enteredBy_41 = true := by decide +kernel
def eX2_enteredBy_42 : List xI := [(.ior, 1, 0, 0, 0), (.istore_n 2, 1, 0, 0, 0), (.iinc 3 1, 3, 0, 0, (1))]
theorem kX2_enteredBy_42 : xcode (xmb mX2_enteredBy) (xmo mX2_enteredBy) 42 eX2_enteredBy_42 = true := by decide +kernel
def eX2_enteredBy_31 : List xI := [(.iconst 1, 1, 0, 0, (1)), (.iload 4, 2, 0, 0, 0), (.bipush 26, 2, 0, 0, (26)), (.idiv, 1, 0, 0, 0), (.ishl, 1, 0, 0, 0)]
theorem kX2_enteredBy_31 : xcode (xmb mX2_enteredBy) (xmo mX2_enteredBy) 31 eX2_enteredBy_31 = true := by decide +kernel
def wX2_enteredBy_42 (v : Nat) (p1 : Int32) (Q : Int32 → xM → Prop) (k4 : xM → Int32 → Int32 → Prop) (M : xM) (a3 : Int32) (s0 : Int32) (s1 : Int32) : Prop :=
    k4 M (s1 ||| s0) (a3 + (1 : Int32))
set_option maxHeartbeats 4000000 in
set_option maxRecDepth 100000 in
theorem tX2_enteredBy_42 {l : Launch} {E : xE} {v : Nat} {p1 : Int32} {Q : Int32 → xM → Prop} {k4 : xM → Int32 → Int32 → Prop} (h_v : xVol v) (hk4 : ∀ (M : xM) (a2 : Int32) (a3 : Int32), k4 M a2 a3 → Gx l E mX2_enteredBy (xRi Q) 4 M [some (.ref v), some (.int p1), some (.int a2), some (.int a3), none] []) (M : xM) (a3 : Int32) (s0 : Int32) (s1 : Int32) (h : wX2_enteredBy_42 v p1 Q k4 M a3 s0 s1) : Gx l E mX2_enteredBy (xRi Q) 42 M [some (.ref v), some (.int p1), none, some (.int a3), none] [.int s0, .int s1] := by
  unfold wX2_enteredBy_42 at h
  refine Gx_run (es := eX2_enteredBy_42) (P := []) (M' := M) (L' := [some (.ref v), some (.int p1), some (.int (s1 ||| s0)), some (.int (a3 + (1 : Int32))), none]) (st' := []) (pc' := 47) kX2_enteredBy_42 rfl trivial rfl ?_
  refine Gx_goto (off := -43) (tgt := 4) (by decide +kernel) (by decide) ?_
  refine Gx_mask [true, true, true, true, false] (L' := [some (.ref v), some (.int p1), some (.int (s1 ||| s0)), some (.int (a3 + (1 : Int32))), none]) rfl ?_
  exact hk4 M (s1 ||| s0) (a3 + (1 : Int32)) h
def lX2_enteredBy_4 (v : Nat) (p1 : Int32) (Q : Int32 → xM → Prop) : Nat → xM → Int32 → Int32 → Prop
  | 0 => fun _ _ _ => False
  | n + 1 => let k4 := lX2_enteredBy_4 v p1 Q n; fun M a2 a3 =>
    ((((6 : Int32) ≤ a3) → (Q a2 M)) ∧ ((¬ (6 : Int32) ≤ a3) → ((vp_in (((6 : Int32) * p1) + a3) 60) ∧ ((((M (v + 5) (((6 : Int32) * p1) + a3).toNatClampNeg) = (-9 : Int32)) → (wX2_enteredBy_42 v p1 Q k4 M a3 (0 : Int32) a2)) ∧ ((¬ (M (v + 5) (((6 : Int32) * p1) + a3).toNatClampNeg) = (-9 : Int32)) → (wX2_enteredBy_42 v p1 Q k4 M a3 ((1 : Int32) <<< (((M (v + 5) (((6 : Int32) * p1) + a3).toNatClampNeg) / (26 : Int32)) &&& 31)) a2))))))
set_option maxHeartbeats 4000000 in
set_option maxRecDepth 100000 in
theorem tX2_enteredBy_4 {l : Launch} {E : xE} {v : Nat} {p1 : Int32} {Q : Int32 → xM → Prop} (h_v : xVol v) (n : Nat) : ∀ (M : xM) (a2 : Int32) (a3 : Int32), lX2_enteredBy_4 v p1 Q n M a2 a3 → Gx l E mX2_enteredBy (xRi Q) 4 M [some (.ref v), some (.int p1), some (.int a2), some (.int a3), none] [] := by
  induction n with
  | zero => intro M a2 a3 h; exact h.elim
  | succ n hk4 =>
      intro M a2 a3 h
      unfold lX2_enteredBy_4 at h
      dsimp only at h
      refine Gx_run (es := eX2_enteredBy_4) (P := []) (M' := M) (L' := [some (.ref v), some (.int p1), some (.int a2), some (.int a3), none]) (st' := [.int (6 : Int32), .int a3]) (pc' := 7) kX2_enteredBy_4 rfl trivial rfl ?_
      refine Gx_icmp_ge (off := 43) (tgt := 50) (by decide +kernel) (by decide) (fun z => ?_) (fun z => ?_)
      · have h := h.1 z
        refine Gx_run (es := eX2_enteredBy_50) (P := []) (M' := M) (L' := [some (.ref v), some (.int p1), some (.int a2), some (.int a3), none]) (st' := [.int a2]) (pc' := 51) kX2_enteredBy_50 rfl trivial rfl ?_
        exact Gx_iret (by decide +kernel) rfl rfl ⟨_, rfl, h⟩
      · have h := h.2 z
        obtain ⟨g10_0, h⟩ := h
        refine Gx_run (es := eX2_enteredBy_10) (P := [xkd v = 2, xkd (v + 5) = 5, vp_in (((6 : Int32) * p1) + a3) (xln (v + 5))]) (M' := M) (L' := [some (.ref v), some (.int p1), some (.int a2), some (.int a3), some (.int (M (v + 5) (((6 : Int32) * p1) + a3).toNatClampNeg))]) (st' := [.int (-9 : Int32), .int (M (v + 5) (((6 : Int32) * p1) + a3).toNatClampNeg), .int a2]) (pc' := 28) kX2_enteredBy_10 rfl ⟨(xVol_0 h_v), (xVol_5 h_v), (by rw [xVol_l5 h_v]; exact g10_0), trivial⟩ rfl ?_
        refine Gx_icmp_eq (off := 13) (tgt := 41) (by decide +kernel) (by decide) (fun z => ?_) (fun z => ?_)
        · have h := h.1 z
          refine Gx_run (es := eX2_enteredBy_41) (P := []) (M' := M) (L' := [some (.ref v), some (.int p1), some (.int a2), some (.int a3), some (.int (M (v + 5) (((6 : Int32) * p1) + a3).toNatClampNeg))]) (st' := [.int (0 : Int32), .int a2]) (pc' := 42) kX2_enteredBy_41 rfl trivial rfl ?_
          refine Gx_mask [true, true, false, true, false] (L' := [some (.ref v), some (.int p1), none, some (.int a3), none]) rfl ?_
          exact tX2_enteredBy_42 h_v  hk4 M a3 (0 : Int32) a2 h
        · have h := h.2 z
          refine Gx_run (es := eX2_enteredBy_31) (P := [¬ (26 : Int32) = 0]) (M' := M) (L' := [some (.ref v), some (.int p1), some (.int a2), some (.int a3), some (.int (M (v + 5) (((6 : Int32) * p1) + a3).toNatClampNeg))]) (st' := [.int ((1 : Int32) <<< (((M (v + 5) (((6 : Int32) * p1) + a3).toNatClampNeg) / (26 : Int32)) &&& 31)), .int a2]) (pc' := 38) kX2_enteredBy_31 rfl ⟨(by decide), trivial⟩ rfl ?_
          refine Gx_goto (off := 4) (tgt := 42) (by decide +kernel) (by decide) ?_
          refine Gx_mask [true, true, false, true, false] (L' := [some (.ref v), some (.int p1), none, some (.int a3), none]) rfl ?_
          exact tX2_enteredBy_42 h_v  hk4 M a3 ((1 : Int32) <<< (((M (v + 5) (((6 : Int32) * p1) + a3).toNatClampNeg) / (26 : Int32)) &&& 31)) a2 h
def wX2_enteredBy (M : xM) (v : Nat) (p1 : Int32) (Q : Int32 → xM → Prop) : Prop :=
    (∃ n : Nat, lX2_enteredBy_4 v p1 Q n M (0 : Int32) (0 : Int32))
set_option maxHeartbeats 4000000 in
set_option maxRecDepth 100000 in
theorem tX2_enteredBy {l : Launch} {E : xE} {M : xM} {v : Nat} {p1 : Int32} {Q : Int32 → xM → Prop} (h_v : xVol v) (h : wX2_enteredBy M v p1 Q) : Ct l E mX2_enteredBy [.ref v, .int p1] M (xRi Q) := by
  refine Ct_of (by decide +kernel) rfl (Nat.le_of_ble_eq_true rfl) ?_
  unfold wX2_enteredBy at h
  show Gx l E mX2_enteredBy (xRi Q) 0 M [some (.ref v), some (.int p1), none, none, none] []
  refine Gx_run (es := eX2_enteredBy_0) (P := []) (M' := M) (L' := [some (.ref v), some (.int p1), some (.int (0 : Int32)), some (.int (0 : Int32)), none]) (st' := []) (pc' := 4) kX2_enteredBy_0 rfl trivial rfl ?_
  refine Gx_mask [true, true, true, true, false] (L' := [some (.ref v), some (.int p1), some (.int (0 : Int32)), some (.int (0 : Int32)), none]) rfl ?_
  obtain ⟨n, h⟩ := h
  exact tX2_enteredBy_4 h_v  n M (0 : Int32) (0 : Int32) h
def eX2_entriesIn_0 : List xI := [(.iconst 0, 1, 0, 0, (0)), (.istore_n 2, 1, 0, 0, 0), (.iconst 0, 1, 0, 0, (0)), (.istore_n 3, 1, 0, 0, 0)]
theorem kX2_entriesIn_0 : xcode (xmb mX2_entriesIn) (xmo mX2_entriesIn) 0 eX2_entriesIn_0 = true := by decide +kernel
def eX2_entriesIn_4 : List xI := [(.iload_n 3, 1, 0, 0, 0), (.bipush 6, 2, 0, 0, (6))]
theorem kX2_entriesIn_4 : xcode (xmb mX2_entriesIn) (xmo mX2_entriesIn) 4 eX2_entriesIn_4 = true := by decide +kernel
def eX2_entriesIn_40 : List xI := [(.iload_n 2, 1, 0, 0, 0)]
theorem kX2_entriesIn_40 : xcode (xmb mX2_entriesIn) (xmo mX2_entriesIn) 40 eX2_entriesIn_40 = true := by decide +kernel
def eX2_entriesIn_10 : List xI := [(.iload_n 2, 1, 0, 0, 0), (.aload_n 0, 1, 0, 0, 0), (.getfield 24, 3, 2, 4, 0), (.bipush 6, 2, 0, 0, (6)), (.iload_n 1, 1, 0, 0, 0), (.imul, 1, 0, 0, 0), (.iload_n 3, 1, 0, 0, 0), (.iadd, 1, 0, 0, 0), (.iaload, 1, 0, 0, 0), (.bipush (-9), 2, 0, 0, (-9))]
theorem kX2_entriesIn_10 : xcode (xmb mX2_entriesIn) (xmo mX2_entriesIn) 10 eX2_entriesIn_10 = true := by decide +kernel
def eX2_entriesIn_31 : List xI := [(.iconst 0, 1, 0, 0, (0))]
theorem kX2_entriesIn_31 : xcode (xmb mX2_entriesIn) (xmo mX2_entriesIn) 31 eX2_entriesIn_31 = true := by decide +kernel
def eX2_entriesIn_32 : List xI := [(.iadd, 1, 0, 0, 0), (.istore_n 2, 1, 0, 0, 0), (.iinc 3 1, 3, 0, 0, (1))]
theorem kX2_entriesIn_32 : xcode (xmb mX2_entriesIn) (xmo mX2_entriesIn) 32 eX2_entriesIn_32 = true := by decide +kernel
def eX2_entriesIn_27 : List xI := [(.iconst 1, 1, 0, 0, (1))]
theorem kX2_entriesIn_27 : xcode (xmb mX2_entriesIn) (xmo mX2_entriesIn) 27 eX2_entriesIn_27 = true := by decide +kernel
def wX2_entriesIn_32 (v : Nat) (p1 : Int32) (Q : Int32 → xM → Prop) (k4 : xM → Int32 → Int32 → Prop) (M : xM) (a3 : Int32) (s0 : Int32) (s1 : Int32) : Prop :=
    k4 M (s1 + s0) (a3 + (1 : Int32))
set_option maxHeartbeats 4000000 in
set_option maxRecDepth 100000 in
theorem tX2_entriesIn_32 {l : Launch} {E : xE} {v : Nat} {p1 : Int32} {Q : Int32 → xM → Prop} {k4 : xM → Int32 → Int32 → Prop} (h_v : xVol v) (hk4 : ∀ (M : xM) (a2 : Int32) (a3 : Int32), k4 M a2 a3 → Gx l E mX2_entriesIn (xRi Q) 4 M [some (.ref v), some (.int p1), some (.int a2), some (.int a3)] []) (M : xM) (a3 : Int32) (s0 : Int32) (s1 : Int32) (h : wX2_entriesIn_32 v p1 Q k4 M a3 s0 s1) : Gx l E mX2_entriesIn (xRi Q) 32 M [some (.ref v), some (.int p1), none, some (.int a3)] [.int s0, .int s1] := by
  unfold wX2_entriesIn_32 at h
  refine Gx_run (es := eX2_entriesIn_32) (P := []) (M' := M) (L' := [some (.ref v), some (.int p1), some (.int (s1 + s0)), some (.int (a3 + (1 : Int32)))]) (st' := []) (pc' := 37) kX2_entriesIn_32 rfl trivial rfl ?_
  refine Gx_goto (off := -33) (tgt := 4) (by decide +kernel) (by decide) ?_
  refine Gx_mask [true, true, true, true] (L' := [some (.ref v), some (.int p1), some (.int (s1 + s0)), some (.int (a3 + (1 : Int32)))]) rfl ?_
  exact hk4 M (s1 + s0) (a3 + (1 : Int32)) h
def lX2_entriesIn_4 (v : Nat) (p1 : Int32) (Q : Int32 → xM → Prop) : Nat → xM → Int32 → Int32 → Prop
  | 0 => fun _ _ _ => False
  | n + 1 => let k4 := lX2_entriesIn_4 v p1 Q n; fun M a2 a3 =>
    ((((6 : Int32) ≤ a3) → (Q a2 M)) ∧ ((¬ (6 : Int32) ≤ a3) → ((vp_in (((6 : Int32) * p1) + a3) 60) ∧ ((((M (v + 5) (((6 : Int32) * p1) + a3).toNatClampNeg) = (-9 : Int32)) → (wX2_entriesIn_32 v p1 Q k4 M a3 (0 : Int32) a2)) ∧ ((¬ (M (v + 5) (((6 : Int32) * p1) + a3).toNatClampNeg) = (-9 : Int32)) → (wX2_entriesIn_32 v p1 Q k4 M a3 (1 : Int32) a2))))))
set_option maxHeartbeats 4000000 in
set_option maxRecDepth 100000 in
theorem tX2_entriesIn_4 {l : Launch} {E : xE} {v : Nat} {p1 : Int32} {Q : Int32 → xM → Prop} (h_v : xVol v) (n : Nat) : ∀ (M : xM) (a2 : Int32) (a3 : Int32), lX2_entriesIn_4 v p1 Q n M a2 a3 → Gx l E mX2_entriesIn (xRi Q) 4 M [some (.ref v), some (.int p1), some (.int a2), some (.int a3)] [] := by
  induction n with
  | zero => intro M a2 a3 h; exact h.elim
  | succ n hk4 =>
      intro M a2 a3 h
      unfold lX2_entriesIn_4 at h
      dsimp only at h
      refine Gx_run (es := eX2_entriesIn_4) (P := []) (M' := M) (L' := [some (.ref v), some (.int p1), some (.int a2), some (.int a3)]) (st' := [.int (6 : Int32), .int a3]) (pc' := 7) kX2_entriesIn_4 rfl trivial rfl ?_
      refine Gx_icmp_ge (off := 33) (tgt := 40) (by decide +kernel) (by decide) (fun z => ?_) (fun z => ?_)
      · have h := h.1 z
        refine Gx_run (es := eX2_entriesIn_40) (P := []) (M' := M) (L' := [some (.ref v), some (.int p1), some (.int a2), some (.int a3)]) (st' := [.int a2]) (pc' := 41) kX2_entriesIn_40 rfl trivial rfl ?_
        exact Gx_iret (by decide +kernel) rfl rfl ⟨_, rfl, h⟩
      · have h := h.2 z
        obtain ⟨g10_0, h⟩ := h
        refine Gx_run (es := eX2_entriesIn_10) (P := [xkd v = 2, xkd (v + 5) = 5, vp_in (((6 : Int32) * p1) + a3) (xln (v + 5))]) (M' := M) (L' := [some (.ref v), some (.int p1), some (.int a2), some (.int a3)]) (st' := [.int (-9 : Int32), .int (M (v + 5) (((6 : Int32) * p1) + a3).toNatClampNeg), .int a2]) (pc' := 24) kX2_entriesIn_10 rfl ⟨(xVol_0 h_v), (xVol_5 h_v), (by rw [xVol_l5 h_v]; exact g10_0), trivial⟩ rfl ?_
        refine Gx_icmp_eq (off := 7) (tgt := 31) (by decide +kernel) (by decide) (fun z => ?_) (fun z => ?_)
        · have h := h.1 z
          refine Gx_run (es := eX2_entriesIn_31) (P := []) (M' := M) (L' := [some (.ref v), some (.int p1), some (.int a2), some (.int a3)]) (st' := [.int (0 : Int32), .int a2]) (pc' := 32) kX2_entriesIn_31 rfl trivial rfl ?_
          refine Gx_mask [true, true, false, true] (L' := [some (.ref v), some (.int p1), none, some (.int a3)]) rfl ?_
          exact tX2_entriesIn_32 h_v  hk4 M a3 (0 : Int32) a2 h
        · have h := h.2 z
          refine Gx_run (es := eX2_entriesIn_27) (P := []) (M' := M) (L' := [some (.ref v), some (.int p1), some (.int a2), some (.int a3)]) (st' := [.int (1 : Int32), .int a2]) (pc' := 28) kX2_entriesIn_27 rfl trivial rfl ?_
          refine Gx_goto (off := 4) (tgt := 32) (by decide +kernel) (by decide) ?_
          refine Gx_mask [true, true, false, true] (L' := [some (.ref v), some (.int p1), none, some (.int a3)]) rfl ?_
          exact tX2_entriesIn_32 h_v  hk4 M a3 (1 : Int32) a2 h
def wX2_entriesIn (M : xM) (v : Nat) (p1 : Int32) (Q : Int32 → xM → Prop) : Prop :=
    (∃ n : Nat, lX2_entriesIn_4 v p1 Q n M (0 : Int32) (0 : Int32))
set_option maxHeartbeats 4000000 in
set_option maxRecDepth 100000 in
theorem tX2_entriesIn {l : Launch} {E : xE} {M : xM} {v : Nat} {p1 : Int32} {Q : Int32 → xM → Prop} (h_v : xVol v) (h : wX2_entriesIn M v p1 Q) : Ct l E mX2_entriesIn [.ref v, .int p1] M (xRi Q) := by
  refine Ct_of (by decide +kernel) rfl (Nat.le_of_ble_eq_true rfl) ?_
  unfold wX2_entriesIn at h
  show Gx l E mX2_entriesIn (xRi Q) 0 M [some (.ref v), some (.int p1), none, none] []
  refine Gx_run (es := eX2_entriesIn_0) (P := []) (M' := M) (L' := [some (.ref v), some (.int p1), some (.int (0 : Int32)), some (.int (0 : Int32))]) (st' := []) (pc' := 4) kX2_entriesIn_0 rfl trivial rfl ?_
  refine Gx_mask [true, true, true, true] (L' := [some (.ref v), some (.int p1), some (.int (0 : Int32)), some (.int (0 : Int32))]) rfl ?_
  obtain ⟨n, h⟩ := h
  exact tX2_entriesIn_4 h_v  n M (0 : Int32) (0 : Int32) h
def eX2_inodesInUse_0 : List xI := [(.iconst 0, 1, 0, 0, (0)), (.istore_n 1, 1, 0, 0, 0), (.iconst 0, 1, 0, 0, (0)), (.istore_n 2, 1, 0, 0, 0)]
theorem kX2_inodesInUse_0 : xcode (xmb mX2_inodesInUse) (xmo mX2_inodesInUse) 0 eX2_inodesInUse_0 = true := by decide +kernel
def eX2_inodesInUse_4 : List xI := [(.iload_n 2, 1, 0, 0, 0), (.bipush 10, 2, 0, 0, (10))]
theorem kX2_inodesInUse_4 : xcode (xmb mX2_inodesInUse) (xmo mX2_inodesInUse) 4 eX2_inodesInUse_4 = true := by decide +kernel
def eX2_inodesInUse_35 : List xI := [(.iload_n 1, 1, 0, 0, 0)]
theorem kX2_inodesInUse_35 : xcode (xmb mX2_inodesInUse) (xmo mX2_inodesInUse) 35 eX2_inodesInUse_35 = true := by decide +kernel
def eX2_inodesInUse_10 : List xI := [(.iload_n 1, 1, 0, 0, 0), (.aload_n 0, 1, 0, 0, 0), (.getfield 9, 3, 2, 0, 0), (.iload_n 2, 1, 0, 0, 0), (.iaload, 1, 0, 0, 0)]
theorem kX2_inodesInUse_10 : xcode (xmb mX2_inodesInUse) (xmo mX2_inodesInUse) 10 eX2_inodesInUse_10 = true := by decide +kernel
def eX2_inodesInUse_26 : List xI := [(.iconst 0, 1, 0, 0, (0))]
theorem kX2_inodesInUse_26 : xcode (xmb mX2_inodesInUse) (xmo mX2_inodesInUse) 26 eX2_inodesInUse_26 = true := by decide +kernel
def eX2_inodesInUse_27 : List xI := [(.ior, 1, 0, 0, 0), (.istore_n 1, 1, 0, 0, 0), (.iinc 2 1, 3, 0, 0, (1))]
theorem kX2_inodesInUse_27 : xcode (xmb mX2_inodesInUse) (xmo mX2_inodesInUse) 27 eX2_inodesInUse_27 = true := by decide +kernel
def eX2_inodesInUse_20 : List xI := [(.iconst 1, 1, 0, 0, (1)), (.iload_n 2, 1, 0, 0, 0), (.ishl, 1, 0, 0, 0)]
theorem kX2_inodesInUse_20 : xcode (xmb mX2_inodesInUse) (xmo mX2_inodesInUse) 20 eX2_inodesInUse_20 = true := by decide +kernel
def wX2_inodesInUse_27 (v : Nat) (Q : Int32 → xM → Prop) (k4 : xM → Int32 → Int32 → Prop) (M : xM) (a2 : Int32) (s0 : Int32) (s1 : Int32) : Prop :=
    k4 M (s1 ||| s0) (a2 + (1 : Int32))
set_option maxHeartbeats 4000000 in
set_option maxRecDepth 100000 in
theorem tX2_inodesInUse_27 {l : Launch} {E : xE} {v : Nat} {Q : Int32 → xM → Prop} {k4 : xM → Int32 → Int32 → Prop} (h_v : xVol v) (hk4 : ∀ (M : xM) (a1 : Int32) (a2 : Int32), k4 M a1 a2 → Gx l E mX2_inodesInUse (xRi Q) 4 M [some (.ref v), some (.int a1), some (.int a2)] []) (M : xM) (a2 : Int32) (s0 : Int32) (s1 : Int32) (h : wX2_inodesInUse_27 v Q k4 M a2 s0 s1) : Gx l E mX2_inodesInUse (xRi Q) 27 M [some (.ref v), none, some (.int a2)] [.int s0, .int s1] := by
  unfold wX2_inodesInUse_27 at h
  refine Gx_run (es := eX2_inodesInUse_27) (P := []) (M' := M) (L' := [some (.ref v), some (.int (s1 ||| s0)), some (.int (a2 + (1 : Int32)))]) (st' := []) (pc' := 32) kX2_inodesInUse_27 rfl trivial rfl ?_
  refine Gx_goto (off := -28) (tgt := 4) (by decide +kernel) (by decide) ?_
  refine Gx_mask [true, true, true] (L' := [some (.ref v), some (.int (s1 ||| s0)), some (.int (a2 + (1 : Int32)))]) rfl ?_
  exact hk4 M (s1 ||| s0) (a2 + (1 : Int32)) h
def lX2_inodesInUse_4 (v : Nat) (Q : Int32 → xM → Prop) : Nat → xM → Int32 → Int32 → Prop
  | 0 => fun _ _ _ => False
  | n + 1 => let k4 := lX2_inodesInUse_4 v Q n; fun M a1 a2 =>
    ((((10 : Int32) ≤ a2) → (Q a1 M)) ∧ ((¬ (10 : Int32) ≤ a2) → ((vp_in a2 10) ∧ ((((M (v + 1) a2.toNatClampNeg) = 0) → (wX2_inodesInUse_27 v Q k4 M a2 (0 : Int32) a1)) ∧ ((¬ (M (v + 1) a2.toNatClampNeg) = 0) → (wX2_inodesInUse_27 v Q k4 M a2 ((1 : Int32) <<< (a2 &&& 31)) a1))))))
set_option maxHeartbeats 4000000 in
set_option maxRecDepth 100000 in
theorem tX2_inodesInUse_4 {l : Launch} {E : xE} {v : Nat} {Q : Int32 → xM → Prop} (h_v : xVol v) (n : Nat) : ∀ (M : xM) (a1 : Int32) (a2 : Int32), lX2_inodesInUse_4 v Q n M a1 a2 → Gx l E mX2_inodesInUse (xRi Q) 4 M [some (.ref v), some (.int a1), some (.int a2)] [] := by
  induction n with
  | zero => intro M a1 a2 h; exact h.elim
  | succ n hk4 =>
      intro M a1 a2 h
      unfold lX2_inodesInUse_4 at h
      dsimp only at h
      refine Gx_run (es := eX2_inodesInUse_4) (P := []) (M' := M) (L' := [some (.ref v), some (.int a1), some (.int a2)]) (st' := [.int (10 : Int32), .int a2]) (pc' := 7) kX2_inodesInUse_4 rfl trivial rfl ?_
      refine Gx_icmp_ge (off := 28) (tgt := 35) (by decide +kernel) (by decide) (fun z => ?_) (fun z => ?_)
      · have h := h.1 z
        refine Gx_run (es := eX2_inodesInUse_35) (P := []) (M' := M) (L' := [some (.ref v), some (.int a1), some (.int a2)]) (st' := [.int a1]) (pc' := 36) kX2_inodesInUse_35 rfl trivial rfl ?_
        exact Gx_iret (by decide +kernel) rfl rfl ⟨_, rfl, h⟩
      · have h := h.2 z
        obtain ⟨g10_0, h⟩ := h
        refine Gx_run (es := eX2_inodesInUse_10) (P := [xkd v = 2, xkd (v + 1) = 5, vp_in a2 (xln (v + 1))]) (M' := M) (L' := [some (.ref v), some (.int a1), some (.int a2)]) (st' := [.int (M (v + 1) a2.toNatClampNeg), .int a1]) (pc' := 17) kX2_inodesInUse_10 rfl ⟨(xVol_0 h_v), (xVol_1 h_v), (by rw [xVol_l1 h_v]; exact g10_0), trivial⟩ rfl ?_
        refine Gx_if_eq (off := 9) (tgt := 26) (by decide +kernel) (by decide) (fun z => ?_) (fun z => ?_)
        · have h := h.1 z
          refine Gx_run (es := eX2_inodesInUse_26) (P := []) (M' := M) (L' := [some (.ref v), some (.int a1), some (.int a2)]) (st' := [.int (0 : Int32), .int a1]) (pc' := 27) kX2_inodesInUse_26 rfl trivial rfl ?_
          refine Gx_mask [true, false, true] (L' := [some (.ref v), none, some (.int a2)]) rfl ?_
          exact tX2_inodesInUse_27 h_v  hk4 M a2 (0 : Int32) a1 h
        · have h := h.2 z
          refine Gx_run (es := eX2_inodesInUse_20) (P := []) (M' := M) (L' := [some (.ref v), some (.int a1), some (.int a2)]) (st' := [.int ((1 : Int32) <<< (a2 &&& 31)), .int a1]) (pc' := 23) kX2_inodesInUse_20 rfl trivial rfl ?_
          refine Gx_goto (off := 4) (tgt := 27) (by decide +kernel) (by decide) ?_
          refine Gx_mask [true, false, true] (L' := [some (.ref v), none, some (.int a2)]) rfl ?_
          exact tX2_inodesInUse_27 h_v  hk4 M a2 ((1 : Int32) <<< (a2 &&& 31)) a1 h
def wX2_inodesInUse (M : xM) (v : Nat) (Q : Int32 → xM → Prop) : Prop :=
    (∃ n : Nat, lX2_inodesInUse_4 v Q n M (0 : Int32) (0 : Int32))
set_option maxHeartbeats 4000000 in
set_option maxRecDepth 100000 in
theorem tX2_inodesInUse {l : Launch} {E : xE} {M : xM} {v : Nat} {Q : Int32 → xM → Prop} (h_v : xVol v) (h : wX2_inodesInUse M v Q) : Ct l E mX2_inodesInUse [.ref v] M (xRi Q) := by
  refine Ct_of (by decide +kernel) rfl (Nat.le_of_ble_eq_true rfl) ?_
  unfold wX2_inodesInUse at h
  show Gx l E mX2_inodesInUse (xRi Q) 0 M [some (.ref v), none, none] []
  refine Gx_run (es := eX2_inodesInUse_0) (P := []) (M' := M) (L' := [some (.ref v), some (.int (0 : Int32)), some (.int (0 : Int32))]) (st' := []) (pc' := 4) kX2_inodesInUse_0 rfl trivial rfl ?_
  refine Gx_mask [true, true, true] (L' := [some (.ref v), some (.int (0 : Int32)), some (.int (0 : Int32))]) rfl ?_
  obtain ⟨n, h⟩ := h
  exact tX2_inodesInUse_4 h_v  n M (0 : Int32) (0 : Int32) h
def eX2_isDirectory_0 : List xI := [(.aload_n 0, 1, 0, 0, 0), (.getfield 9, 3, 2, 0, 0), (.iload_n 1, 1, 0, 0, 0), (.iaload, 1, 0, 0, 0), (.iconst 2, 1, 0, 0, (2))]
theorem kX2_isDirectory_0 : xcode (xmb mX2_isDirectory) (xmo mX2_isDirectory) 0 eX2_isDirectory_0 = true := by decide +kernel
def eX2_isDirectory_20 : List xI := [(.iconst 1, 1, 0, 0, (1))]
theorem kX2_isDirectory_20 : xcode (xmb mX2_isDirectory) (xmo mX2_isDirectory) 20 eX2_isDirectory_20 = true := by decide +kernel
def eX2_isDirectory_10 : List xI := [(.aload_n 0, 1, 0, 0, 0), (.getfield 9, 3, 2, 0, 0), (.iload_n 1, 1, 0, 0, 0), (.iaload, 1, 0, 0, 0), (.iconst 5, 1, 0, 0, (5))]
theorem kX2_isDirectory_10 : xcode (xmb mX2_isDirectory) (xmo mX2_isDirectory) 10 eX2_isDirectory_10 = true := by decide +kernel
def eX2_isDirectory_24 : List xI := [(.iconst 0, 1, 0, 0, (0))]
theorem kX2_isDirectory_24 : xcode (xmb mX2_isDirectory) (xmo mX2_isDirectory) 24 eX2_isDirectory_24 = true := by decide +kernel
def wX2_isDirectory_25 (v : Nat) (p1 : Int32) (Q : Int32 → xM → Prop) (M : xM) (s0 : Int32) : Prop :=
    (s0 &&& 1 = s0) ∧ Q s0 M
set_option maxHeartbeats 4000000 in
set_option maxRecDepth 100000 in
theorem tX2_isDirectory_25 {l : Launch} {E : xE} {v : Nat} {p1 : Int32} {Q : Int32 → xM → Prop} (h_v : xVol v) (M : xM) (s0 : Int32) (h : wX2_isDirectory_25 v p1 Q M s0) : Gx l E mX2_isDirectory (xRi Q) 25 M [none, none] [.int s0] := by
  unfold wX2_isDirectory_25 at h
  exact Gx_iret (by decide +kernel) rfl (congrArg Value.int h.1) ⟨_, rfl, h.2⟩
def wX2_isDirectory_20 (v : Nat) (p1 : Int32) (Q : Int32 → xM → Prop) (M : xM) : Prop :=
    wX2_isDirectory_25 v p1 Q M (1 : Int32)
set_option maxHeartbeats 4000000 in
set_option maxRecDepth 100000 in
theorem tX2_isDirectory_20 {l : Launch} {E : xE} {v : Nat} {p1 : Int32} {Q : Int32 → xM → Prop} (h_v : xVol v) (M : xM) (h : wX2_isDirectory_20 v p1 Q M ) : Gx l E mX2_isDirectory (xRi Q) 20 M [none, none] [] := by
  unfold wX2_isDirectory_20 at h
  refine Gx_run (es := eX2_isDirectory_20) (P := []) (M' := M) (L' := [none, none]) (st' := [.int (1 : Int32)]) (pc' := 21) kX2_isDirectory_20 rfl trivial rfl ?_
  refine Gx_goto (off := 4) (tgt := 25) (by decide +kernel) (by decide) ?_
  refine Gx_mask [false, false] (L' := [none, none]) rfl ?_
  exact tX2_isDirectory_25 h_v  M (1 : Int32) h
def wX2_isDirectory (M : xM) (v : Nat) (p1 : Int32) (Q : Int32 → xM → Prop) : Prop :=
    (vp_in p1 10) ∧ ((((M (v + 1) p1.toNatClampNeg) = (2 : Int32)) → (wX2_isDirectory_20 v p1 Q M)) ∧ ((¬ (M (v + 1) p1.toNatClampNeg) = (2 : Int32)) → ((vp_in p1 10) ∧ (((¬ (M (v + 1) p1.toNatClampNeg) = (5 : Int32)) → (wX2_isDirectory_25 v p1 Q M (0 : Int32))) ∧ (((M (v + 1) p1.toNatClampNeg) = (5 : Int32)) → (wX2_isDirectory_20 v p1 Q M))))))
set_option maxHeartbeats 4000000 in
set_option maxRecDepth 100000 in
theorem tX2_isDirectory {l : Launch} {E : xE} {M : xM} {v : Nat} {p1 : Int32} {Q : Int32 → xM → Prop} (h_v : xVol v) (h : wX2_isDirectory M v p1 Q) : Ct l E mX2_isDirectory [.ref v, .int p1] M (xRi Q) := by
  refine Ct_of (by decide +kernel) rfl (Nat.le_of_ble_eq_true rfl) ?_
  unfold wX2_isDirectory at h
  show Gx l E mX2_isDirectory (xRi Q) 0 M [some (.ref v), some (.int p1)] []
  obtain ⟨g0_0, h⟩ := h
  refine Gx_run (es := eX2_isDirectory_0) (P := [xkd v = 2, xkd (v + 1) = 5, vp_in p1 (xln (v + 1))]) (M' := M) (L' := [some (.ref v), some (.int p1)]) (st' := [.int (2 : Int32), .int (M (v + 1) p1.toNatClampNeg)]) (pc' := 7) kX2_isDirectory_0 rfl ⟨(xVol_0 h_v), (xVol_1 h_v), (by rw [xVol_l1 h_v]; exact g0_0), trivial⟩ rfl ?_
  refine Gx_icmp_eq (off := 13) (tgt := 20) (by decide +kernel) (by decide) (fun z => ?_) (fun z => ?_)
  · have h := h.1 z
    refine Gx_mask [false, false] (L' := [none, none]) rfl ?_
    exact tX2_isDirectory_20 h_v  M h
  · have h := h.2 z
    obtain ⟨g10_0, h⟩ := h
    refine Gx_run (es := eX2_isDirectory_10) (P := [xkd v = 2, xkd (v + 1) = 5, vp_in p1 (xln (v + 1))]) (M' := M) (L' := [some (.ref v), some (.int p1)]) (st' := [.int (5 : Int32), .int (M (v + 1) p1.toNatClampNeg)]) (pc' := 17) kX2_isDirectory_10 rfl ⟨(xVol_0 h_v), (xVol_1 h_v), (by rw [xVol_l1 h_v]; exact g10_0), trivial⟩ rfl ?_
    refine Gx_icmp_ne (off := 7) (tgt := 24) (by decide +kernel) (by decide) (fun z => ?_) (fun z => ?_)
    · have h := h.1 z
      refine Gx_run (es := eX2_isDirectory_24) (P := []) (M' := M) (L' := [some (.ref v), some (.int p1)]) (st' := [.int (0 : Int32)]) (pc' := 25) kX2_isDirectory_24 rfl trivial rfl ?_
      refine Gx_mask [false, false] (L' := [none, none]) rfl ?_
      exact tX2_isDirectory_25 h_v  M (0 : Int32) h
    · have h := h.2 z
      refine Gx_mask [false, false] (L' := [none, none]) rfl ?_
      exact tX2_isDirectory_20 h_v  M h
def eX2_placeOfEntryTo_0 : List xI := [(.iconst 0, 1, 0, 0, (0)), (.istore_n 2, 1, 0, 0, 0)]
theorem kX2_placeOfEntryTo_0 : xcode (xmb mX2_placeOfEntryTo) (xmo mX2_placeOfEntryTo) 0 eX2_placeOfEntryTo_0 = true := by decide +kernel
def eX2_placeOfEntryTo_2 : List xI := [(.iload_n 2, 1, 0, 0, 0), (.aload_n 0, 1, 0, 0, 0), (.getfield 24, 3, 2, 4, 0), (.arraylength, 1, 0, 0, 0)]
theorem kX2_placeOfEntryTo_2 : xcode (xmb mX2_placeOfEntryTo) (xmo mX2_placeOfEntryTo) 2 eX2_placeOfEntryTo_2 = true := by decide +kernel
def eX2_placeOfEntryTo_43 : List xI := [(.bipush (-9), 2, 0, 0, (-9))]
theorem kX2_placeOfEntryTo_43 : xcode (xmb mX2_placeOfEntryTo) (xmo mX2_placeOfEntryTo) 43 eX2_placeOfEntryTo_43 = true := by decide +kernel
def eX2_placeOfEntryTo_11 : List xI := [(.aload_n 0, 1, 0, 0, 0), (.getfield 24, 3, 2, 4, 0), (.iload_n 2, 1, 0, 0, 0), (.iaload, 1, 0, 0, 0), (.bipush (-9), 2, 0, 0, (-9))]
theorem kX2_placeOfEntryTo_11 : xcode (xmb mX2_placeOfEntryTo) (xmo mX2_placeOfEntryTo) 11 eX2_placeOfEntryTo_11 = true := by decide +kernel
def eX2_placeOfEntryTo_37 : List xI := [(.iinc 2 1, 3, 0, 0, (1))]
theorem kX2_placeOfEntryTo_37 : xcode (xmb mX2_placeOfEntryTo) (xmo mX2_placeOfEntryTo) 37 eX2_placeOfEntryTo_37 = true := by decide +kernel
def eX2_placeOfEntryTo_22 : List xI := [(.aload_n 0, 1, 0, 0, 0), (.getfield 24, 3, 2, 4, 0), (.iload_n 2, 1, 0, 0, 0), (.iaload, 1, 0, 0, 0), (.bipush 26, 2, 0, 0, (26)), (.idiv, 1, 0, 0, 0), (.iload_n 1, 1, 0, 0, 0)]
theorem kX2_placeOfEntryTo_22 : xcode (xmb mX2_placeOfEntryTo) (xmo mX2_placeOfEntryTo) 22 eX2_placeOfEntryTo_22 = true := by decide +kernel
def eX2_placeOfEntryTo_35 : List xI := [(.iload_n 2, 1, 0, 0, 0)]
theorem kX2_placeOfEntryTo_35 : xcode (xmb mX2_placeOfEntryTo) (xmo mX2_placeOfEntryTo) 35 eX2_placeOfEntryTo_35 = true := by decide +kernel
def wX2_placeOfEntryTo_37 (v : Nat) (p1 : Int32) (Q : Int32 → xM → Prop) (k2 : xM → Int32 → Prop) (M : xM) (a2 : Int32) : Prop :=
    k2 M (a2 + (1 : Int32))
set_option maxHeartbeats 4000000 in
set_option maxRecDepth 100000 in
theorem tX2_placeOfEntryTo_37 {l : Launch} {E : xE} {v : Nat} {p1 : Int32} {Q : Int32 → xM → Prop} {k2 : xM → Int32 → Prop} (h_v : xVol v) (hk2 : ∀ (M : xM) (a2 : Int32), k2 M a2 → Gx l E mX2_placeOfEntryTo (xRi Q) 2 M [some (.ref v), some (.int p1), some (.int a2)] []) (M : xM) (a2 : Int32) (h : wX2_placeOfEntryTo_37 v p1 Q k2 M a2) : Gx l E mX2_placeOfEntryTo (xRi Q) 37 M [some (.ref v), some (.int p1), some (.int a2)] [] := by
  unfold wX2_placeOfEntryTo_37 at h
  refine Gx_run (es := eX2_placeOfEntryTo_37) (P := []) (M' := M) (L' := [some (.ref v), some (.int p1), some (.int (a2 + (1 : Int32)))]) (st' := []) (pc' := 40) kX2_placeOfEntryTo_37 rfl trivial rfl ?_
  refine Gx_goto (off := -38) (tgt := 2) (by decide +kernel) (by decide) ?_
  refine Gx_mask [true, true, true] (L' := [some (.ref v), some (.int p1), some (.int (a2 + (1 : Int32)))]) rfl ?_
  exact hk2 M (a2 + (1 : Int32)) h
def lX2_placeOfEntryTo_2 (v : Nat) (p1 : Int32) (Q : Int32 → xM → Prop) : Nat → xM → Int32 → Prop
  | 0 => fun _ _ => False
  | n + 1 => let k2 := lX2_placeOfEntryTo_2 v p1 Q n; fun M a2 =>
    ((((nI (xln (v + 5))) ≤ a2) → (Q (-9 : Int32) M)) ∧ ((¬ (nI (xln (v + 5))) ≤ a2) → ((vp_in a2 60) ∧ ((((M (v + 5) a2.toNatClampNeg) = (-9 : Int32)) → (wX2_placeOfEntryTo_37 v p1 Q k2 M a2)) ∧ ((¬ (M (v + 5) a2.toNatClampNeg) = (-9 : Int32)) → ((vp_in a2 60) ∧ (((¬ ((M (v + 5) a2.toNatClampNeg) / (26 : Int32)) = p1) → (wX2_placeOfEntryTo_37 v p1 Q k2 M a2)) ∧ ((((M (v + 5) a2.toNatClampNeg) / (26 : Int32)) = p1) → (Q a2 M)))))))))
set_option maxHeartbeats 4000000 in
set_option maxRecDepth 100000 in
theorem tX2_placeOfEntryTo_2 {l : Launch} {E : xE} {v : Nat} {p1 : Int32} {Q : Int32 → xM → Prop} (h_v : xVol v) (n : Nat) : ∀ (M : xM) (a2 : Int32), lX2_placeOfEntryTo_2 v p1 Q n M a2 → Gx l E mX2_placeOfEntryTo (xRi Q) 2 M [some (.ref v), some (.int p1), some (.int a2)] [] := by
  induction n with
  | zero => intro M a2 h; exact h.elim
  | succ n hk2 =>
      intro M a2 h
      unfold lX2_placeOfEntryTo_2 at h
      dsimp only at h
      refine Gx_run (es := eX2_placeOfEntryTo_2) (P := [xkd v = 2, xkd (v + 5) = 5]) (M' := M) (L' := [some (.ref v), some (.int p1), some (.int a2)]) (st' := [.int (nI (xln (v + 5))), .int a2]) (pc' := 8) kX2_placeOfEntryTo_2 rfl ⟨(xVol_0 h_v), (xVol_5 h_v), trivial⟩ rfl ?_
      refine Gx_icmp_ge (off := 35) (tgt := 43) (by decide +kernel) (by decide) (fun z => ?_) (fun z => ?_)
      · have h := h.1 z
        refine Gx_run (es := eX2_placeOfEntryTo_43) (P := []) (M' := M) (L' := [some (.ref v), some (.int p1), some (.int a2)]) (st' := [.int (-9 : Int32)]) (pc' := 45) kX2_placeOfEntryTo_43 rfl trivial rfl ?_
        exact Gx_iret (by decide +kernel) rfl rfl ⟨_, rfl, h⟩
      · have h := h.2 z
        obtain ⟨g11_0, h⟩ := h
        refine Gx_run (es := eX2_placeOfEntryTo_11) (P := [xkd v = 2, xkd (v + 5) = 5, vp_in a2 (xln (v + 5))]) (M' := M) (L' := [some (.ref v), some (.int p1), some (.int a2)]) (st' := [.int (-9 : Int32), .int (M (v + 5) a2.toNatClampNeg)]) (pc' := 19) kX2_placeOfEntryTo_11 rfl ⟨(xVol_0 h_v), (xVol_5 h_v), (by rw [xVol_l5 h_v]; exact g11_0), trivial⟩ rfl ?_
        refine Gx_icmp_eq (off := 18) (tgt := 37) (by decide +kernel) (by decide) (fun z => ?_) (fun z => ?_)
        · have h := h.1 z
          refine Gx_mask [true, true, true] (L' := [some (.ref v), some (.int p1), some (.int a2)]) rfl ?_
          exact tX2_placeOfEntryTo_37 h_v  hk2 M a2 h
        · have h := h.2 z
          obtain ⟨g22_0, h⟩ := h
          refine Gx_run (es := eX2_placeOfEntryTo_22) (P := [xkd v = 2, xkd (v + 5) = 5, vp_in a2 (xln (v + 5)), ¬ (26 : Int32) = 0]) (M' := M) (L' := [some (.ref v), some (.int p1), some (.int a2)]) (st' := [.int p1, .int ((M (v + 5) a2.toNatClampNeg) / (26 : Int32))]) (pc' := 32) kX2_placeOfEntryTo_22 rfl ⟨(xVol_0 h_v), (xVol_5 h_v), (by rw [xVol_l5 h_v]; exact g22_0), (by decide), trivial⟩ rfl ?_
          refine Gx_icmp_ne (off := 5) (tgt := 37) (by decide +kernel) (by decide) (fun z => ?_) (fun z => ?_)
          · have h := h.1 z
            refine Gx_mask [true, true, true] (L' := [some (.ref v), some (.int p1), some (.int a2)]) rfl ?_
            exact tX2_placeOfEntryTo_37 h_v  hk2 M a2 h
          · have h := h.2 z
            refine Gx_run (es := eX2_placeOfEntryTo_35) (P := []) (M' := M) (L' := [some (.ref v), some (.int p1), some (.int a2)]) (st' := [.int a2]) (pc' := 36) kX2_placeOfEntryTo_35 rfl trivial rfl ?_
            exact Gx_iret (by decide +kernel) rfl rfl ⟨_, rfl, h⟩
def wX2_placeOfEntryTo (M : xM) (v : Nat) (p1 : Int32) (Q : Int32 → xM → Prop) : Prop :=
    (∃ n : Nat, lX2_placeOfEntryTo_2 v p1 Q n M (0 : Int32))
set_option maxHeartbeats 4000000 in
set_option maxRecDepth 100000 in
theorem tX2_placeOfEntryTo {l : Launch} {E : xE} {M : xM} {v : Nat} {p1 : Int32} {Q : Int32 → xM → Prop} (h_v : xVol v) (h : wX2_placeOfEntryTo M v p1 Q) : Ct l E mX2_placeOfEntryTo [.ref v, .int p1] M (xRi Q) := by
  refine Ct_of (by decide +kernel) rfl (Nat.le_of_ble_eq_true rfl) ?_
  unfold wX2_placeOfEntryTo at h
  show Gx l E mX2_placeOfEntryTo (xRi Q) 0 M [some (.ref v), some (.int p1), none] []
  refine Gx_run (es := eX2_placeOfEntryTo_0) (P := []) (M' := M) (L' := [some (.ref v), some (.int p1), some (.int (0 : Int32))]) (st' := []) (pc' := 2) kX2_placeOfEntryTo_0 rfl trivial rfl ?_
  refine Gx_mask [true, true, true] (L' := [some (.ref v), some (.int p1), some (.int (0 : Int32))]) rfl ?_
  obtain ⟨n, h⟩ := h
  exact tX2_placeOfEntryTo_2 h_v  n M (0 : Int32) h
def eX2_pointAt_0 : List xI := [(.aload_n 0, 1, 0, 0, 0), (.getfield 21, 3, 2, 3, 0), (.iconst 3, 1, 0, 0, (3)), (.iload_n 1, 1, 0, 0, 0), (.imul, 1, 0, 0, 0), (.iload_n 2, 1, 0, 0, 0), (.iadd, 1, 0, 0, 0), (.iload_n 3, 1, 0, 0, 0), (.bipush 99, 2, 0, 0, (99))]
theorem kX2_pointAt_0 : xcode (xmb mX2_pointAt) (xmo mX2_pointAt) 0 eX2_pointAt_0 = true := by decide +kernel
def eX2_pointAt_20 : List xI := [(.iload_n 3, 1, 0, 0, 0)]
theorem kX2_pointAt_20 : xcode (xmb mX2_pointAt) (xmo mX2_pointAt) 20 eX2_pointAt_20 = true := by decide +kernel
def eX2_pointAt_21 : List xI := [(.iastore, 1, 0, 0, 0)]
theorem kX2_pointAt_21 : xcode (xmb mX2_pointAt) (xmo mX2_pointAt) 21 eX2_pointAt_21 = true := by decide +kernel
def eX2_pointAt_15 : List xI := [(.bipush (-9), 2, 0, 0, (-9))]
theorem kX2_pointAt_15 : xcode (xmb mX2_pointAt) (xmo mX2_pointAt) 15 eX2_pointAt_15 = true := by decide +kernel
def wX2_pointAt_21 (v : Nat) (p1 : Int32) (p2 : Int32) (p3 : Int32) (Q : xM → Prop) (M : xM) (s0 : Int32) : Prop :=
    (vp_in (((3 : Int32) * p1) + p2) 30) ∧ Q (xup M (v + 4) (((3 : Int32) * p1) + p2).toNatClampNeg s0)
set_option maxHeartbeats 4000000 in
set_option maxRecDepth 100000 in
theorem tX2_pointAt_21 {l : Launch} {E : xE} {v : Nat} {p1 : Int32} {p2 : Int32} {p3 : Int32} {Q : xM → Prop} (h_v : xVol v) (M : xM) (s0 : Int32) (h : wX2_pointAt_21 v p1 p2 p3 Q M s0) : Gx l E mX2_pointAt (xRv Q) 21 M [none, none, none, none] [.int s0, .int (((3 : Int32) * p1) + p2), .ref (v + 4)] := by
  unfold wX2_pointAt_21 at h
  obtain ⟨g21_0, h⟩ := h
  refine Gx_run (es := eX2_pointAt_21) (P := [xkd (v + 4) = 5, vp_in (((3 : Int32) * p1) + p2) (xln (v + 4))]) (M' := (xup M (v + 4) (((3 : Int32) * p1) + p2).toNatClampNeg s0)) (L' := [none, none, none, none]) (st' := []) (pc' := 22) kX2_pointAt_21 rfl ⟨(xVol_4 h_v), (by rw [xVol_l4 h_v]; exact g21_0), trivial⟩ rfl ?_
  exact Gx_vret (by decide +kernel) rfl ⟨rfl, h⟩
def wX2_pointAt (M : xM) (v : Nat) (p1 : Int32) (p2 : Int32) (p3 : Int32) (Q : xM → Prop) : Prop :=
    (((¬ p3 = (99 : Int32)) → (wX2_pointAt_21 v p1 p2 p3 Q M p3)) ∧ ((p3 = (99 : Int32)) → (wX2_pointAt_21 v p1 p2 p3 Q M (-9 : Int32))))
set_option maxHeartbeats 4000000 in
set_option maxRecDepth 100000 in
theorem tX2_pointAt {l : Launch} {E : xE} {M : xM} {v : Nat} {p1 : Int32} {p2 : Int32} {p3 : Int32} {Q : xM → Prop} (h_v : xVol v) (h : wX2_pointAt M v p1 p2 p3 Q) : Ct l E mX2_pointAt [.ref v, .int p1, .int p2, .int p3] M (xRv Q) := by
  refine Ct_of (by decide +kernel) rfl (Nat.le_of_ble_eq_true rfl) ?_
  unfold wX2_pointAt at h
  show Gx l E mX2_pointAt (xRv Q) 0 M [some (.ref v), some (.int p1), some (.int p2), some (.int p3)] []
  refine Gx_run (es := eX2_pointAt_0) (P := [xkd v = 2]) (M' := M) (L' := [some (.ref v), some (.int p1), some (.int p2), some (.int p3)]) (st' := [.int (99 : Int32), .int p3, .int (((3 : Int32) * p1) + p2), .ref (v + 4)]) (pc' := 12) kX2_pointAt_0 rfl ⟨(xVol_0 h_v), trivial⟩ rfl ?_
  refine Gx_icmp_ne (off := 8) (tgt := 20) (by decide +kernel) (by decide) (fun z => ?_) (fun z => ?_)
  · have h := h.1 z
    refine Gx_run (es := eX2_pointAt_20) (P := []) (M' := M) (L' := [some (.ref v), some (.int p1), some (.int p2), some (.int p3)]) (st' := [.int p3, .int (((3 : Int32) * p1) + p2), .ref (v + 4)]) (pc' := 21) kX2_pointAt_20 rfl trivial rfl ?_
    refine Gx_mask [false, false, false, false] (L' := [none, none, none, none]) rfl ?_
    exact tX2_pointAt_21 h_v  M p3 h
  · have h := h.2 z
    refine Gx_run (es := eX2_pointAt_15) (P := []) (M' := M) (L' := [some (.ref v), some (.int p1), some (.int p2), some (.int p3)]) (st' := [.int (-9 : Int32), .int (((3 : Int32) * p1) + p2), .ref (v + 4)]) (pc' := 17) kX2_pointAt_15 rfl trivial rfl ?_
    refine Gx_goto (off := 4) (tgt := 21) (by decide +kernel) (by decide) ?_
    refine Gx_mask [false, false, false, false] (L' := [none, none, none, none]) rfl ?_
    exact tX2_pointAt_21 h_v  M (-9 : Int32) h
def eX2_pointersTo_0 : List xI := [(.iconst 0, 1, 0, 0, (0)), (.istore_n 2, 1, 0, 0, 0), (.iconst 0, 1, 0, 0, (0)), (.istore_n 3, 1, 0, 0, 0)]
theorem kX2_pointersTo_0 : xcode (xmb mX2_pointersTo) (xmo mX2_pointersTo) 0 eX2_pointersTo_0 = true := by decide +kernel
def eX2_pointersTo_4 : List xI := [(.iload_n 3, 1, 0, 0, 0), (.aload_n 0, 1, 0, 0, 0), (.getfield 21, 3, 2, 3, 0), (.arraylength, 1, 0, 0, 0)]
theorem kX2_pointersTo_4 : xcode (xmb mX2_pointersTo) (xmo mX2_pointersTo) 4 eX2_pointersTo_4 = true := by decide +kernel
def eX2_pointersTo_37 : List xI := [(.iload_n 2, 1, 0, 0, 0)]
theorem kX2_pointersTo_37 : xcode (xmb mX2_pointersTo) (xmo mX2_pointersTo) 37 eX2_pointersTo_37 = true := by decide +kernel
def eX2_pointersTo_13 : List xI := [(.iload_n 2, 1, 0, 0, 0), (.aload_n 0, 1, 0, 0, 0), (.getfield 21, 3, 2, 3, 0), (.iload_n 3, 1, 0, 0, 0), (.iaload, 1, 0, 0, 0), (.iload_n 1, 1, 0, 0, 0)]
theorem kX2_pointersTo_13 : xcode (xmb mX2_pointersTo) (xmo mX2_pointersTo) 13 eX2_pointersTo_13 = true := by decide +kernel
def eX2_pointersTo_28 : List xI := [(.iconst 0, 1, 0, 0, (0))]
theorem kX2_pointersTo_28 : xcode (xmb mX2_pointersTo) (xmo mX2_pointersTo) 28 eX2_pointersTo_28 = true := by decide +kernel
def eX2_pointersTo_29 : List xI := [(.iadd, 1, 0, 0, 0), (.istore_n 2, 1, 0, 0, 0), (.iinc 3 1, 3, 0, 0, (1))]
theorem kX2_pointersTo_29 : xcode (xmb mX2_pointersTo) (xmo mX2_pointersTo) 29 eX2_pointersTo_29 = true := by decide +kernel
def eX2_pointersTo_24 : List xI := [(.iconst 1, 1, 0, 0, (1))]
theorem kX2_pointersTo_24 : xcode (xmb mX2_pointersTo) (xmo mX2_pointersTo) 24 eX2_pointersTo_24 = true := by decide +kernel
def wX2_pointersTo_29 (v : Nat) (p1 : Int32) (Q : Int32 → xM → Prop) (k4 : xM → Int32 → Int32 → Prop) (M : xM) (a3 : Int32) (s0 : Int32) (s1 : Int32) : Prop :=
    k4 M (s1 + s0) (a3 + (1 : Int32))
set_option maxHeartbeats 4000000 in
set_option maxRecDepth 100000 in
theorem tX2_pointersTo_29 {l : Launch} {E : xE} {v : Nat} {p1 : Int32} {Q : Int32 → xM → Prop} {k4 : xM → Int32 → Int32 → Prop} (h_v : xVol v) (hk4 : ∀ (M : xM) (a2 : Int32) (a3 : Int32), k4 M a2 a3 → Gx l E mX2_pointersTo (xRi Q) 4 M [some (.ref v), some (.int p1), some (.int a2), some (.int a3)] []) (M : xM) (a3 : Int32) (s0 : Int32) (s1 : Int32) (h : wX2_pointersTo_29 v p1 Q k4 M a3 s0 s1) : Gx l E mX2_pointersTo (xRi Q) 29 M [some (.ref v), some (.int p1), none, some (.int a3)] [.int s0, .int s1] := by
  unfold wX2_pointersTo_29 at h
  refine Gx_run (es := eX2_pointersTo_29) (P := []) (M' := M) (L' := [some (.ref v), some (.int p1), some (.int (s1 + s0)), some (.int (a3 + (1 : Int32)))]) (st' := []) (pc' := 34) kX2_pointersTo_29 rfl trivial rfl ?_
  refine Gx_goto (off := -30) (tgt := 4) (by decide +kernel) (by decide) ?_
  refine Gx_mask [true, true, true, true] (L' := [some (.ref v), some (.int p1), some (.int (s1 + s0)), some (.int (a3 + (1 : Int32)))]) rfl ?_
  exact hk4 M (s1 + s0) (a3 + (1 : Int32)) h
def lX2_pointersTo_4 (v : Nat) (p1 : Int32) (Q : Int32 → xM → Prop) : Nat → xM → Int32 → Int32 → Prop
  | 0 => fun _ _ _ => False
  | n + 1 => let k4 := lX2_pointersTo_4 v p1 Q n; fun M a2 a3 =>
    ((((nI (xln (v + 4))) ≤ a3) → (Q a2 M)) ∧ ((¬ (nI (xln (v + 4))) ≤ a3) → ((vp_in a3 30) ∧ (((¬ (M (v + 4) a3.toNatClampNeg) = p1) → (wX2_pointersTo_29 v p1 Q k4 M a3 (0 : Int32) a2)) ∧ (((M (v + 4) a3.toNatClampNeg) = p1) → (wX2_pointersTo_29 v p1 Q k4 M a3 (1 : Int32) a2))))))
set_option maxHeartbeats 4000000 in
set_option maxRecDepth 100000 in
theorem tX2_pointersTo_4 {l : Launch} {E : xE} {v : Nat} {p1 : Int32} {Q : Int32 → xM → Prop} (h_v : xVol v) (n : Nat) : ∀ (M : xM) (a2 : Int32) (a3 : Int32), lX2_pointersTo_4 v p1 Q n M a2 a3 → Gx l E mX2_pointersTo (xRi Q) 4 M [some (.ref v), some (.int p1), some (.int a2), some (.int a3)] [] := by
  induction n with
  | zero => intro M a2 a3 h; exact h.elim
  | succ n hk4 =>
      intro M a2 a3 h
      unfold lX2_pointersTo_4 at h
      dsimp only at h
      refine Gx_run (es := eX2_pointersTo_4) (P := [xkd v = 2, xkd (v + 4) = 5]) (M' := M) (L' := [some (.ref v), some (.int p1), some (.int a2), some (.int a3)]) (st' := [.int (nI (xln (v + 4))), .int a3]) (pc' := 10) kX2_pointersTo_4 rfl ⟨(xVol_0 h_v), (xVol_4 h_v), trivial⟩ rfl ?_
      refine Gx_icmp_ge (off := 27) (tgt := 37) (by decide +kernel) (by decide) (fun z => ?_) (fun z => ?_)
      · have h := h.1 z
        refine Gx_run (es := eX2_pointersTo_37) (P := []) (M' := M) (L' := [some (.ref v), some (.int p1), some (.int a2), some (.int a3)]) (st' := [.int a2]) (pc' := 38) kX2_pointersTo_37 rfl trivial rfl ?_
        exact Gx_iret (by decide +kernel) rfl rfl ⟨_, rfl, h⟩
      · have h := h.2 z
        obtain ⟨g13_0, h⟩ := h
        refine Gx_run (es := eX2_pointersTo_13) (P := [xkd v = 2, xkd (v + 4) = 5, vp_in a3 (xln (v + 4))]) (M' := M) (L' := [some (.ref v), some (.int p1), some (.int a2), some (.int a3)]) (st' := [.int p1, .int (M (v + 4) a3.toNatClampNeg), .int a2]) (pc' := 21) kX2_pointersTo_13 rfl ⟨(xVol_0 h_v), (xVol_4 h_v), (by rw [xVol_l4 h_v]; exact g13_0), trivial⟩ rfl ?_
        refine Gx_icmp_ne (off := 7) (tgt := 28) (by decide +kernel) (by decide) (fun z => ?_) (fun z => ?_)
        · have h := h.1 z
          refine Gx_run (es := eX2_pointersTo_28) (P := []) (M' := M) (L' := [some (.ref v), some (.int p1), some (.int a2), some (.int a3)]) (st' := [.int (0 : Int32), .int a2]) (pc' := 29) kX2_pointersTo_28 rfl trivial rfl ?_
          refine Gx_mask [true, true, false, true] (L' := [some (.ref v), some (.int p1), none, some (.int a3)]) rfl ?_
          exact tX2_pointersTo_29 h_v  hk4 M a3 (0 : Int32) a2 h
        · have h := h.2 z
          refine Gx_run (es := eX2_pointersTo_24) (P := []) (M' := M) (L' := [some (.ref v), some (.int p1), some (.int a2), some (.int a3)]) (st' := [.int (1 : Int32), .int a2]) (pc' := 25) kX2_pointersTo_24 rfl trivial rfl ?_
          refine Gx_goto (off := 4) (tgt := 29) (by decide +kernel) (by decide) ?_
          refine Gx_mask [true, true, false, true] (L' := [some (.ref v), some (.int p1), none, some (.int a3)]) rfl ?_
          exact tX2_pointersTo_29 h_v  hk4 M a3 (1 : Int32) a2 h
def wX2_pointersTo (M : xM) (v : Nat) (p1 : Int32) (Q : Int32 → xM → Prop) : Prop :=
    (∃ n : Nat, lX2_pointersTo_4 v p1 Q n M (0 : Int32) (0 : Int32))
set_option maxHeartbeats 4000000 in
set_option maxRecDepth 100000 in
theorem tX2_pointersTo {l : Launch} {E : xE} {M : xM} {v : Nat} {p1 : Int32} {Q : Int32 → xM → Prop} (h_v : xVol v) (h : wX2_pointersTo M v p1 Q) : Ct l E mX2_pointersTo [.ref v, .int p1] M (xRi Q) := by
  refine Ct_of (by decide +kernel) rfl (Nat.le_of_ble_eq_true rfl) ?_
  unfold wX2_pointersTo at h
  show Gx l E mX2_pointersTo (xRi Q) 0 M [some (.ref v), some (.int p1), none, none] []
  refine Gx_run (es := eX2_pointersTo_0) (P := []) (M' := M) (L' := [some (.ref v), some (.int p1), some (.int (0 : Int32)), some (.int (0 : Int32))]) (st' := []) (pc' := 4) kX2_pointersTo_0 rfl trivial rfl ?_
  refine Gx_mask [true, true, true, true] (L' := [some (.ref v), some (.int p1), some (.int (0 : Int32)), some (.int (0 : Int32))]) rfl ?_
  obtain ⟨n, h⟩ := h
  exact tX2_pointersTo_4 h_v  n M (0 : Int32) (0 : Int32) h
def eX2_wipe_0 : List xI := [(.aload_n 0, 1, 0, 0, 0), (.getfield 9, 3, 2, 0, 0), (.iload_n 1, 1, 0, 0, 0), (.iconst 0, 1, 0, 0, (0)), (.iastore, 1, 0, 0, 0), (.aload_n 0, 1, 0, 0, 0), (.getfield 15, 3, 2, 1, 0), (.iload_n 1, 1, 0, 0, 0), (.iconst 0, 1, 0, 0, (0)), (.iastore, 1, 0, 0, 0), (.aload_n 0, 1, 0, 0, 0), (.getfield 18, 3, 2, 2, 0), (.iload_n 1, 1, 0, 0, 0), (.iconst 0, 1, 0, 0, (0)), (.iastore, 1, 0, 0, 0), (.iconst 0, 1, 0, 0, (0)), (.istore_n 2, 1, 0, 0, 0)]
theorem kX2_wipe_0 : xcode (xmb mX2_wipe) (xmo mX2_wipe) 0 eX2_wipe_0 = true := by decide +kernel
def eX2_wipe_23 : List xI := [(.iload_n 2, 1, 0, 0, 0), (.iconst 3, 1, 0, 0, (3))]
theorem kX2_wipe_23 : xcode (xmb mX2_wipe) (xmo mX2_wipe) 23 eX2_wipe_23 = true := by decide +kernel
def eX2_wipe_46 : List xI := [(.iconst 0, 1, 0, 0, (0)), (.istore_n 2, 1, 0, 0, 0)]
theorem kX2_wipe_46 : xcode (xmb mX2_wipe) (xmo mX2_wipe) 46 eX2_wipe_46 = true := by decide +kernel
def eX2_wipe_48 : List xI := [(.iload_n 2, 1, 0, 0, 0), (.bipush 6, 2, 0, 0, (6))]
theorem kX2_wipe_48 : xcode (xmb mX2_wipe) (xmo mX2_wipe) 48 eX2_wipe_48 = true := by decide +kernel
def eX2_wipe_54 : List xI := [(.aload_n 0, 1, 0, 0, 0), (.getfield 24, 3, 2, 4, 0), (.bipush 6, 2, 0, 0, (6)), (.iload_n 1, 1, 0, 0, 0), (.imul, 1, 0, 0, 0), (.iload_n 2, 1, 0, 0, 0), (.iadd, 1, 0, 0, 0), (.bipush (-9), 2, 0, 0, (-9)), (.iastore, 1, 0, 0, 0), (.iinc 2 1, 3, 0, 0, (1))]
theorem kX2_wipe_54 : xcode (xmb mX2_wipe) (xmo mX2_wipe) 54 eX2_wipe_54 = true := by decide +kernel
def eX2_wipe_28 : List xI := [(.aload_n 0, 1, 0, 0, 0), (.getfield 21, 3, 2, 3, 0), (.iconst 3, 1, 0, 0, (3)), (.iload_n 1, 1, 0, 0, 0), (.imul, 1, 0, 0, 0), (.iload_n 2, 1, 0, 0, 0), (.iadd, 1, 0, 0, 0), (.bipush (-9), 2, 0, 0, (-9)), (.iastore, 1, 0, 0, 0), (.iinc 2 1, 3, 0, 0, (1))]
theorem kX2_wipe_28 : xcode (xmb mX2_wipe) (xmo mX2_wipe) 28 eX2_wipe_28 = true := by decide +kernel
def lX2_wipe_48 (v : Nat) (p1 : Int32) (Q : xM → Prop) : Nat → xM → Int32 → Prop
  | 0 => fun _ _ => False
  | n + 1 => let k48 := lX2_wipe_48 v p1 Q n; fun M a2 =>
    ((((6 : Int32) ≤ a2) → (Q M)) ∧ ((¬ (6 : Int32) ≤ a2) → ((vp_in (((6 : Int32) * p1) + a2) 60) ∧ k48 (xup M (v + 5) (((6 : Int32) * p1) + a2).toNatClampNeg (-9 : Int32)) (a2 + (1 : Int32)))))
set_option maxHeartbeats 4000000 in
set_option maxRecDepth 100000 in
theorem tX2_wipe_48 {l : Launch} {E : xE} {v : Nat} {p1 : Int32} {Q : xM → Prop} (h_v : xVol v) (n : Nat) : ∀ (M : xM) (a2 : Int32), lX2_wipe_48 v p1 Q n M a2 → Gx l E mX2_wipe (xRv Q) 48 M [some (.ref v), some (.int p1), some (.int a2)] [] := by
  induction n with
  | zero => intro M a2 h; exact h.elim
  | succ n hk48 =>
      intro M a2 h
      unfold lX2_wipe_48 at h
      dsimp only at h
      refine Gx_run (es := eX2_wipe_48) (P := []) (M' := M) (L' := [some (.ref v), some (.int p1), some (.int a2)]) (st' := [.int (6 : Int32), .int a2]) (pc' := 51) kX2_wipe_48 rfl trivial rfl ?_
      refine Gx_icmp_ge (off := 22) (tgt := 73) (by decide +kernel) (by decide) (fun z => ?_) (fun z => ?_)
      · have h := h.1 z
        exact Gx_vret (by decide +kernel) rfl ⟨rfl, h⟩
      · have h := h.2 z
        obtain ⟨g54_0, h⟩ := h
        refine Gx_run (es := eX2_wipe_54) (P := [xkd v = 2, xkd (v + 5) = 5, vp_in (((6 : Int32) * p1) + a2) (xln (v + 5))]) (M' := (xup M (v + 5) (((6 : Int32) * p1) + a2).toNatClampNeg (-9 : Int32))) (L' := [some (.ref v), some (.int p1), some (.int (a2 + (1 : Int32)))]) (st' := []) (pc' := 70) kX2_wipe_54 rfl ⟨(xVol_0 h_v), (xVol_5 h_v), (by rw [xVol_l5 h_v]; exact g54_0), trivial⟩ rfl ?_
        refine Gx_goto (off := -22) (tgt := 48) (by decide +kernel) (by decide) ?_
        refine Gx_mask [true, true, true] (L' := [some (.ref v), some (.int p1), some (.int (a2 + (1 : Int32)))]) rfl ?_
        exact hk48 (xup M (v + 5) (((6 : Int32) * p1) + a2).toNatClampNeg (-9 : Int32)) (a2 + (1 : Int32)) h
def lX2_wipe_23 (v : Nat) (p1 : Int32) (Q : xM → Prop) : Nat → xM → Int32 → Prop
  | 0 => fun _ _ => False
  | n + 1 => let k23 := lX2_wipe_23 v p1 Q n; fun M a2 =>
    ((((3 : Int32) ≤ a2) → ((∃ n : Nat, lX2_wipe_48 v p1 Q n M (0 : Int32)))) ∧ ((¬ (3 : Int32) ≤ a2) → ((vp_in (((3 : Int32) * p1) + a2) 30) ∧ k23 (xup M (v + 4) (((3 : Int32) * p1) + a2).toNatClampNeg (-9 : Int32)) (a2 + (1 : Int32)))))
set_option maxHeartbeats 4000000 in
set_option maxRecDepth 100000 in
theorem tX2_wipe_23 {l : Launch} {E : xE} {v : Nat} {p1 : Int32} {Q : xM → Prop} (h_v : xVol v) (n : Nat) : ∀ (M : xM) (a2 : Int32), lX2_wipe_23 v p1 Q n M a2 → Gx l E mX2_wipe (xRv Q) 23 M [some (.ref v), some (.int p1), some (.int a2)] [] := by
  induction n with
  | zero => intro M a2 h; exact h.elim
  | succ n hk23 =>
      intro M a2 h
      unfold lX2_wipe_23 at h
      dsimp only at h
      refine Gx_run (es := eX2_wipe_23) (P := []) (M' := M) (L' := [some (.ref v), some (.int p1), some (.int a2)]) (st' := [.int (3 : Int32), .int a2]) (pc' := 25) kX2_wipe_23 rfl trivial rfl ?_
      refine Gx_icmp_ge (off := 21) (tgt := 46) (by decide +kernel) (by decide) (fun z => ?_) (fun z => ?_)
      · have h := h.1 z
        refine Gx_run (es := eX2_wipe_46) (P := []) (M' := M) (L' := [some (.ref v), some (.int p1), some (.int (0 : Int32))]) (st' := []) (pc' := 48) kX2_wipe_46 rfl trivial rfl ?_
        refine Gx_mask [true, true, true] (L' := [some (.ref v), some (.int p1), some (.int (0 : Int32))]) rfl ?_
        obtain ⟨n, h⟩ := h
        exact tX2_wipe_48 h_v  n M (0 : Int32) h
      · have h := h.2 z
        obtain ⟨g28_0, h⟩ := h
        refine Gx_run (es := eX2_wipe_28) (P := [xkd v = 2, xkd (v + 4) = 5, vp_in (((3 : Int32) * p1) + a2) (xln (v + 4))]) (M' := (xup M (v + 4) (((3 : Int32) * p1) + a2).toNatClampNeg (-9 : Int32))) (L' := [some (.ref v), some (.int p1), some (.int (a2 + (1 : Int32)))]) (st' := []) (pc' := 43) kX2_wipe_28 rfl ⟨(xVol_0 h_v), (xVol_4 h_v), (by rw [xVol_l4 h_v]; exact g28_0), trivial⟩ rfl ?_
        refine Gx_goto (off := -20) (tgt := 23) (by decide +kernel) (by decide) ?_
        refine Gx_mask [true, true, true] (L' := [some (.ref v), some (.int p1), some (.int (a2 + (1 : Int32)))]) rfl ?_
        exact hk23 (xup M (v + 4) (((3 : Int32) * p1) + a2).toNatClampNeg (-9 : Int32)) (a2 + (1 : Int32)) h
def wX2_wipe (M : xM) (v : Nat) (p1 : Int32) (Q : xM → Prop) : Prop :=
    (vp_in p1 10) ∧ (∃ n : Nat, lX2_wipe_23 v p1 Q n (xup (xup (xup M (v + 1) p1.toNatClampNeg (0 : Int32)) (v + 2) p1.toNatClampNeg (0 : Int32)) (v + 3) p1.toNatClampNeg (0 : Int32)) (0 : Int32))
set_option maxHeartbeats 4000000 in
set_option maxRecDepth 100000 in
theorem tX2_wipe {l : Launch} {E : xE} {M : xM} {v : Nat} {p1 : Int32} {Q : xM → Prop} (h_v : xVol v) (h : wX2_wipe M v p1 Q) : Ct l E mX2_wipe [.ref v, .int p1] M (xRv Q) := by
  refine Ct_of (by decide +kernel) rfl (Nat.le_of_ble_eq_true rfl) ?_
  unfold wX2_wipe at h
  show Gx l E mX2_wipe (xRv Q) 0 M [some (.ref v), some (.int p1), none] []
  obtain ⟨g0_0, h⟩ := h
  refine Gx_run (es := eX2_wipe_0) (P := [xkd v = 2, xkd (v + 1) = 5, vp_in p1 (xln (v + 1)), xkd v = 2, xkd (v + 2) = 5, vp_in p1 (xln (v + 2)), xkd v = 2, xkd (v + 3) = 5, vp_in p1 (xln (v + 3))]) (M' := (xup (xup (xup M (v + 1) p1.toNatClampNeg (0 : Int32)) (v + 2) p1.toNatClampNeg (0 : Int32)) (v + 3) p1.toNatClampNeg (0 : Int32))) (L' := [some (.ref v), some (.int p1), some (.int (0 : Int32))]) (st' := []) (pc' := 23) kX2_wipe_0 rfl ⟨(xVol_0 h_v), (xVol_1 h_v), (by rw [xVol_l1 h_v]; exact g0_0), (xVol_0 h_v), (xVol_2 h_v), (by rw [xVol_l2 h_v]; exact g0_0), (xVol_0 h_v), (xVol_3 h_v), (by rw [xVol_l3 h_v]; exact g0_0), trivial⟩ rfl ?_
  refine Gx_mask [true, true, true] (L' := [some (.ref v), some (.int p1), some (.int (0 : Int32))]) rfl ?_
  obtain ⟨n, h⟩ := h
  exact tX2_wipe_23 h_v  n (xup (xup (xup M (v + 1) p1.toNatClampNeg (0 : Int32)) (v + 2) p1.toNatClampNeg (0 : Int32)) (v + 3) p1.toNatClampNeg (0 : Int32)) (0 : Int32) h
def eX3_clear_0 : List xI := [(.aload_n 0, 1, 0, 0, 0), (.getfield 51, 3, 3, 9, 0), (.istore_n 1, 1, 0, 0, 0), (.aload_n 0, 1, 0, 0, 0), (.iconst 0, 1, 0, 0, (0)), (.putfield 51, 3, 3, 9, 0), (.iload_n 1, 1, 0, 0, 0)]
theorem kX3_clear_0 : xcode (xmb mX3_clear) (xmo mX3_clear) 0 eX3_clear_0 = true := by decide +kernel
def wX3_clear (M : xM) (Q : Int32 → xM → Prop) : Prop :=
    Q (M 0 9) (xup M 0 9 (0 : Int32))
set_option maxHeartbeats 4000000 in
set_option maxRecDepth 100000 in
theorem tX3_clear {l : Launch} {E : xE} {M : xM} {Q : Int32 → xM → Prop} (h : wX3_clear M  Q) : Ct l E mX3_clear [.ref 0] M (xRi Q) := by
  refine Ct_of (by decide +kernel) rfl (Nat.le_of_ble_eq_true rfl) ?_
  unfold wX3_clear at h
  show Gx l E mX3_clear (xRi Q) 0 M [some (.ref 0), none] []
  refine Gx_run (es := eX3_clear_0) (P := [xkd 0 = 3, xkd 0 = 3]) (M' := (xup M 0 9 (0 : Int32))) (L' := [some (.ref 0), some (.int (M 0 9))]) (st' := [.int (M 0 9)]) (pc' := 11) kX3_clear_0 rfl ⟨rfl, rfl, trivial⟩ rfl ?_
  exact Gx_iret (by decide +kernel) rfl rfl ⟨_, rfl, h⟩
def eX3_draw_0 : List xI := [(.aload_n 0, 1, 0, 0, 0), (.aload_n 0, 1, 0, 0, 0), (.getfield 60, 3, 3, 12, 0), (.ldc 245, 2, 0, 0, (1664525)), (.imul, 1, 0, 0, 0), (.ldc 246, 2, 0, 0, (1013904223)), (.iadd, 1, 0, 0, 0), (.putfield 60, 3, 3, 12, 0), (.iload_n 1, 1, 0, 0, 0), (.iconst 1, 1, 0, 0, (1))]
theorem kX3_draw_0 : xcode (xmb mX3_draw) (xmo mX3_draw) 0 eX3_draw_0 = true := by decide +kernel
def eX3_draw_23 : List xI := [(.aload_n 0, 1, 0, 0, 0), (.getfield 60, 3, 3, 12, 0), (.ldc 247, 2, 0, 0, (2147483647)), (.iand, 1, 0, 0, 0), (.sipush 256, 3, 0, 0, (256)), (.idiv, 1, 0, 0, 0), (.iload_n 1, 1, 0, 0, 0), (.irem, 1, 0, 0, 0)]
theorem kX3_draw_23 : xcode (xmb mX3_draw) (xmo mX3_draw) 23 eX3_draw_23 = true := by decide +kernel
def eX3_draw_19 : List xI := [(.iconst 0, 1, 0, 0, (0))]
theorem kX3_draw_19 : xcode (xmb mX3_draw) (xmo mX3_draw) 19 eX3_draw_19 = true := by decide +kernel
def wX3_draw_36 (p1 : Int32) (Q : Int32 → xM → Prop) (M : xM) (s0 : Int32) : Prop :=
    Q s0 M
set_option maxHeartbeats 4000000 in
set_option maxRecDepth 100000 in
theorem tX3_draw_36 {l : Launch} {E : xE} {p1 : Int32} {Q : Int32 → xM → Prop} (M : xM) (s0 : Int32) (h : wX3_draw_36 p1 Q M s0) : Gx l E mX3_draw (xRi Q) 36 M [none, none] [.int s0] := by
  unfold wX3_draw_36 at h
  exact Gx_iret (by decide +kernel) rfl rfl ⟨_, rfl, h⟩
def wX3_draw (M : xM) (p1 : Int32) (Q : Int32 → xM → Prop) : Prop :=
    ((((1 : Int32) ≤ p1) → ((¬ p1 = 0) ∧ wX3_draw_36 p1 Q (xup M 0 12 (((M 0 12) * (1664525 : Int32)) + (1013904223 : Int32))) (((((xup M 0 12 (((M 0 12) * (1664525 : Int32)) + (1013904223 : Int32))) 0 12) &&& (2147483647 : Int32)) / (256 : Int32)) - ((((xup M 0 12 (((M 0 12) * (1664525 : Int32)) + (1013904223 : Int32))) 0 12) &&& (2147483647 : Int32)) / (256 : Int32)) / p1 * p1))) ∧ ((¬ (1 : Int32) ≤ p1) → (wX3_draw_36 p1 Q (xup M 0 12 (((M 0 12) * (1664525 : Int32)) + (1013904223 : Int32))) (0 : Int32))))
set_option maxHeartbeats 4000000 in
set_option maxRecDepth 100000 in
theorem tX3_draw {l : Launch} {E : xE} {M : xM} {p1 : Int32} {Q : Int32 → xM → Prop} (h : wX3_draw M p1 Q) : Ct l E mX3_draw [.ref 0, .int p1] M (xRi Q) := by
  refine Ct_of (by decide +kernel) rfl (Nat.le_of_ble_eq_true rfl) ?_
  unfold wX3_draw at h
  show Gx l E mX3_draw (xRi Q) 0 M [some (.ref 0), some (.int p1)] []
  refine Gx_run (es := eX3_draw_0) (P := [xkd 0 = 3, xkd 0 = 3]) (M' := (xup M 0 12 (((M 0 12) * (1664525 : Int32)) + (1013904223 : Int32)))) (L' := [some (.ref 0), some (.int p1)]) (st' := [.int (1 : Int32), .int p1]) (pc' := 16) kX3_draw_0 rfl ⟨rfl, rfl, trivial⟩ rfl ?_
  refine Gx_icmp_ge (off := 7) (tgt := 23) (by decide +kernel) (by decide) (fun z => ?_) (fun z => ?_)
  · have h := h.1 z
    obtain ⟨g23_0, h⟩ := h
    refine Gx_run (es := eX3_draw_23) (P := [xkd 0 = 3, ¬ (256 : Int32) = 0, ¬ p1 = 0]) (M' := (xup M 0 12 (((M 0 12) * (1664525 : Int32)) + (1013904223 : Int32)))) (L' := [some (.ref 0), some (.int p1)]) (st' := [.int (((((xup M 0 12 (((M 0 12) * (1664525 : Int32)) + (1013904223 : Int32))) 0 12) &&& (2147483647 : Int32)) / (256 : Int32)) - ((((xup M 0 12 (((M 0 12) * (1664525 : Int32)) + (1013904223 : Int32))) 0 12) &&& (2147483647 : Int32)) / (256 : Int32)) / p1 * p1)]) (pc' := 36) kX3_draw_23 rfl ⟨rfl, (by decide), g23_0, trivial⟩ rfl ?_
    refine Gx_mask [false, false] (L' := [none, none]) rfl ?_
    exact tX3_draw_36  (xup M 0 12 (((M 0 12) * (1664525 : Int32)) + (1013904223 : Int32))) (((((xup M 0 12 (((M 0 12) * (1664525 : Int32)) + (1013904223 : Int32))) 0 12) &&& (2147483647 : Int32)) / (256 : Int32)) - ((((xup M 0 12 (((M 0 12) * (1664525 : Int32)) + (1013904223 : Int32))) 0 12) &&& (2147483647 : Int32)) / (256 : Int32)) / p1 * p1) h
  · have h := h.2 z
    refine Gx_run (es := eX3_draw_19) (P := []) (M' := (xup M 0 12 (((M 0 12) * (1664525 : Int32)) + (1013904223 : Int32)))) (L' := [some (.ref 0), some (.int p1)]) (st' := [.int (0 : Int32)]) (pc' := 20) kX3_draw_19 rfl trivial rfl ?_
    refine Gx_goto (off := 16) (tgt := 36) (by decide +kernel) (by decide) ?_
    refine Gx_mask [false, false] (L' := [none, none]) rfl ?_
    exact tX3_draw_36  (xup M 0 12 (((M 0 12) * (1664525 : Int32)) + (1013904223 : Int32))) (0 : Int32) h
def eX3_isOutside_0 : List xI := [(.iload_n 0, 1, 0, 0, 0)]
theorem kX3_isOutside_0 : xcode (xmb mX3_isOutside) (xmo mX3_isOutside) 0 eX3_isOutside_0 = true := by decide +kernel
def eX3_isOutside_9 : List xI := [(.iconst 1, 1, 0, 0, (1))]
theorem kX3_isOutside_9 : xcode (xmb mX3_isOutside) (xmo mX3_isOutside) 9 eX3_isOutside_9 = true := by decide +kernel
def eX3_isOutside_4 : List xI := [(.iload_n 0, 1, 0, 0, 0), (.iload_n 1, 1, 0, 0, 0)]
theorem kX3_isOutside_4 : xcode (xmb mX3_isOutside) (xmo mX3_isOutside) 4 eX3_isOutside_4 = true := by decide +kernel
def eX3_isOutside_13 : List xI := [(.iconst 0, 1, 0, 0, (0))]
theorem kX3_isOutside_13 : xcode (xmb mX3_isOutside) (xmo mX3_isOutside) 13 eX3_isOutside_13 = true := by decide +kernel
def wX3_isOutside_14 (p1 : Int32) (p2 : Int32) (Q : Int32 → xM → Prop) (M : xM) (s0 : Int32) : Prop :=
    (s0 &&& 1 = s0) ∧ Q s0 M
set_option maxHeartbeats 4000000 in
set_option maxRecDepth 100000 in
theorem tX3_isOutside_14 {l : Launch} {E : xE} {p1 : Int32} {p2 : Int32} {Q : Int32 → xM → Prop} (M : xM) (s0 : Int32) (h : wX3_isOutside_14 p1 p2 Q M s0) : Gx l E mX3_isOutside (xRi Q) 14 M [none, none] [.int s0] := by
  unfold wX3_isOutside_14 at h
  exact Gx_iret (by decide +kernel) rfl (congrArg Value.int h.1) ⟨_, rfl, h.2⟩
def wX3_isOutside_9 (p1 : Int32) (p2 : Int32) (Q : Int32 → xM → Prop) (M : xM) : Prop :=
    wX3_isOutside_14 p1 p2 Q M (1 : Int32)
set_option maxHeartbeats 4000000 in
set_option maxRecDepth 100000 in
theorem tX3_isOutside_9 {l : Launch} {E : xE} {p1 : Int32} {p2 : Int32} {Q : Int32 → xM → Prop} (M : xM) (h : wX3_isOutside_9 p1 p2 Q M ) : Gx l E mX3_isOutside (xRi Q) 9 M [none, none] [] := by
  unfold wX3_isOutside_9 at h
  refine Gx_run (es := eX3_isOutside_9) (P := []) (M' := M) (L' := [none, none]) (st' := [.int (1 : Int32)]) (pc' := 10) kX3_isOutside_9 rfl trivial rfl ?_
  refine Gx_goto (off := 4) (tgt := 14) (by decide +kernel) (by decide) ?_
  refine Gx_mask [false, false] (L' := [none, none]) rfl ?_
  exact tX3_isOutside_14  M (1 : Int32) h
def wX3_isOutside (M : xM) (p1 : Int32) (p2 : Int32) (Q : Int32 → xM → Prop) : Prop :=
    (((p1 < 0) → (wX3_isOutside_9 p1 p2 Q M)) ∧ ((¬ p1 < 0) → ((((p1 < p2) → (wX3_isOutside_14 p1 p2 Q M (0 : Int32))) ∧ ((¬ p1 < p2) → (wX3_isOutside_9 p1 p2 Q M))))))
set_option maxHeartbeats 4000000 in
set_option maxRecDepth 100000 in
theorem tX3_isOutside {l : Launch} {E : xE} {M : xM} {p1 : Int32} {p2 : Int32} {Q : Int32 → xM → Prop} (h : wX3_isOutside M p1 p2 Q) : Ct l E mX3_isOutside [.int p1, .int p2] M (xRi Q) := by
  refine Ct_of (by decide +kernel) rfl (Nat.le_of_ble_eq_true rfl) ?_
  unfold wX3_isOutside at h
  show Gx l E mX3_isOutside (xRi Q) 0 M [some (.int p1), some (.int p2)] []
  refine Gx_run (es := eX3_isOutside_0) (P := []) (M' := M) (L' := [some (.int p1), some (.int p2)]) (st' := [.int p1]) (pc' := 1) kX3_isOutside_0 rfl trivial rfl ?_
  refine Gx_if_lt (off := 8) (tgt := 9) (by decide +kernel) (by decide) (fun z => ?_) (fun z => ?_)
  · have h := h.1 z
    refine Gx_mask [false, false] (L' := [none, none]) rfl ?_
    exact tX3_isOutside_9  M h
  · have h := h.2 z
    refine Gx_run (es := eX3_isOutside_4) (P := []) (M' := M) (L' := [some (.int p1), some (.int p2)]) (st' := [.int p2, .int p1]) (pc' := 6) kX3_isOutside_4 rfl trivial rfl ?_
    refine Gx_icmp_lt (off := 7) (tgt := 13) (by decide +kernel) (by decide) (fun z => ?_) (fun z => ?_)
    · have h := h.1 z
      refine Gx_run (es := eX3_isOutside_13) (P := []) (M' := M) (L' := [some (.int p1), some (.int p2)]) (st' := [.int (0 : Int32)]) (pc' := 14) kX3_isOutside_13 rfl trivial rfl ?_
      refine Gx_mask [false, false] (L' := [none, none]) rfl ?_
      exact tX3_isOutside_14  M (0 : Int32) h
    · have h := h.2 z
      refine Gx_mask [false, false] (L' := [none, none]) rfl ?_
      exact tX3_isOutside_9  M h
def eX3_power_0 : List xI := [(.lconst 1, 1, 0, 0, 0), (.lstore_n 2, 1, 0, 0, 0), (.iconst 0, 1, 0, 0, (0)), (.istore 4, 2, 0, 0, 0)]
theorem kX3_power_0 : xcode (xmb mX3_power) (xmo mX3_power) 0 eX3_power_0 = true := by decide +kernel
def eX3_power_5 : List xI := [(.iload 4, 2, 0, 0, 0), (.iload_n 1, 1, 0, 0, 0)]
theorem kX3_power_5 : xcode (xmb mX3_power) (xmo mX3_power) 5 eX3_power_5 = true := by decide +kernel
def eX3_power_22 : List xI := [(.lload_n 2, 1, 0, 0, 0)]
theorem kX3_power_22 : xcode (xmb mX3_power) (xmo mX3_power) 22 eX3_power_22 = true := by decide +kernel
def eX3_power_11 : List xI := [(.lload_n 2, 1, 0, 0, 0), (.iload_n 0, 1, 0, 0, 0), (.i2l, 1, 0, 0, 0), (.lmul, 1, 0, 0, 0), (.lstore_n 2, 1, 0, 0, 0), (.iinc 4 1, 3, 0, 0, (1))]
theorem kX3_power_11 : xcode (xmb mX3_power) (xmo mX3_power) 11 eX3_power_11 = true := by decide +kernel
def lX3_power_5 (p1 : Int32) (p2 : Int32) (Q : Int64 → xM → Prop) : Nat → xM → Int64 → Int32 → Prop
  | 0 => fun _ _ _ => False
  | n + 1 => let k5 := lX3_power_5 p1 p2 Q n; fun M a2 a4 =>
    (((p2 ≤ a4) → (Q a2 M)) ∧ ((¬ p2 ≤ a4) → (k5 M (a2 * p1.toInt64) (a4 + (1 : Int32)))))
set_option maxHeartbeats 4000000 in
set_option maxRecDepth 100000 in
theorem tX3_power_5 {l : Launch} {E : xE} {p1 : Int32} {p2 : Int32} {Q : Int64 → xM → Prop} (n : Nat) : ∀ (M : xM) (a2 : Int64) (a4 : Int32), lX3_power_5 p1 p2 Q n M a2 a4 → Gx l E mX3_power (xRj Q) 5 M [some (.int p1), some (.int p2), some (.long a2), none, some (.int a4)] [] := by
  induction n with
  | zero => intro M a2 a4 h; exact h.elim
  | succ n hk5 =>
      intro M a2 a4 h
      unfold lX3_power_5 at h
      dsimp only at h
      refine Gx_run (es := eX3_power_5) (P := []) (M' := M) (L' := [some (.int p1), some (.int p2), some (.long a2), none, some (.int a4)]) (st' := [.int p2, .int a4]) (pc' := 8) kX3_power_5 rfl trivial rfl ?_
      refine Gx_icmp_ge (off := 14) (tgt := 22) (by decide +kernel) (by decide) (fun z => ?_) (fun z => ?_)
      · have h := h.1 z
        refine Gx_run (es := eX3_power_22) (P := []) (M' := M) (L' := [some (.int p1), some (.int p2), some (.long a2), none, some (.int a4)]) (st' := [.long a2]) (pc' := 23) kX3_power_22 rfl trivial rfl ?_
        exact Gx_lret (by decide +kernel) rfl ⟨_, rfl, h⟩
      · have h := h.2 z
        refine Gx_run (es := eX3_power_11) (P := []) (M' := M) (L' := [some (.int p1), some (.int p2), some (.long (a2 * p1.toInt64)), none, some (.int (a4 + (1 : Int32)))]) (st' := []) (pc' := 19) kX3_power_11 rfl trivial rfl ?_
        refine Gx_goto (off := -14) (tgt := 5) (by decide +kernel) (by decide) ?_
        refine Gx_mask [true, true, true, false, true] (L' := [some (.int p1), some (.int p2), some (.long (a2 * p1.toInt64)), none, some (.int (a4 + (1 : Int32)))]) rfl ?_
        exact hk5 M (a2 * p1.toInt64) (a4 + (1 : Int32)) h
def wX3_power (M : xM) (p1 : Int32) (p2 : Int32) (Q : Int64 → xM → Prop) : Prop :=
    (∃ n : Nat, lX3_power_5 p1 p2 Q n M (1 : Int64) (0 : Int32))
set_option maxHeartbeats 4000000 in
set_option maxRecDepth 100000 in
theorem tX3_power {l : Launch} {E : xE} {M : xM} {p1 : Int32} {p2 : Int32} {Q : Int64 → xM → Prop} (h : wX3_power M p1 p2 Q) : Ct l E mX3_power [.int p1, .int p2] M (xRj Q) := by
  refine Ct_of (by decide +kernel) rfl (Nat.le_of_ble_eq_true rfl) ?_
  unfold wX3_power at h
  show Gx l E mX3_power (xRj Q) 0 M [some (.int p1), some (.int p2), none, none, none] []
  refine Gx_run (es := eX3_power_0) (P := []) (M' := M) (L' := [some (.int p1), some (.int p2), some (.long (1 : Int64)), none, some (.int (0 : Int32))]) (st' := []) (pc' := 5) kX3_power_0 rfl trivial rfl ?_
  refine Gx_mask [true, true, true, false, true] (L' := [some (.int p1), some (.int p2), some (.long (1 : Int64)), none, some (.int (0 : Int32))]) rfl ?_
  obtain ⟨n, h⟩ := h
  exact tX3_power_5  n M (1 : Int64) (0 : Int32) h
