/-! walks: X2_directories, X2_enteredByThese, X2_entriesInAll, X2_freeBlock, X2_freeNameIn, X2_takeFrom, X3_block, X3_changeByLot, X3_empties, X3_enters, X3_inode -/
def eX2_directories_0 : List xI := [(.iconst 0, 1, 0, 0, (0)), (.istore_n 1, 1, 0, 0, 0), (.iconst 0, 1, 0, 0, (0)), (.istore_n 2, 1, 0, 0, 0)]
theorem kX2_directories_0 : xcode (xmb mX2_directories) (xmo mX2_directories) 0 eX2_directories_0 = true := by decide +kernel
def eX2_directories_4 : List xI := [(.iload_n 2, 1, 0, 0, 0), (.bipush 10, 2, 0, 0, (10))]
theorem kX2_directories_4 : xcode (xmb mX2_directories) (xmo mX2_directories) 4 eX2_directories_4 = true := by decide +kernel
def eX2_directories_34 : List xI := [(.iload_n 1, 1, 0, 0, 0)]
theorem kX2_directories_34 : xcode (xmb mX2_directories) (xmo mX2_directories) 34 eX2_directories_34 = true := by decide +kernel
def eX2_directories_10 : List xI := [(.iload_n 1, 1, 0, 0, 0), (.aload_n 0, 1, 0, 0, 0), (.iload_n 2, 1, 0, 0, 0)]
theorem kX2_directories_10 : xcode (xmb mX2_directories) (xmo mX2_directories) 10 eX2_directories_10 = true := by decide +kernel
def eX2_directories_25 : List xI := [(.iconst 0, 1, 0, 0, (0))]
theorem kX2_directories_25 : xcode (xmb mX2_directories) (xmo mX2_directories) 25 eX2_directories_25 = true := by decide +kernel
def eX2_directories_26 : List xI := [(.ior, 1, 0, 0, 0), (.istore_n 1, 1, 0, 0, 0), (.iinc 2 1, 3, 0, 0, (1))]
theorem kX2_directories_26 : xcode (xmb mX2_directories) (xmo mX2_directories) 26 eX2_directories_26 = true := by decide +kernel
def eX2_directories_19 : List xI := [(.iconst 1, 1, 0, 0, (1)), (.iload_n 2, 1, 0, 0, 0), (.ishl, 1, 0, 0, 0)]
theorem kX2_directories_19 : xcode (xmb mX2_directories) (xmo mX2_directories) 19 eX2_directories_19 = true := by decide +kernel
def wX2_directories_26 (v : Nat) (Q : Int32 → xM → Prop) (k4 : xM → Int32 → Int32 → Prop) (M : xM) (a2 : Int32) (s0 : Int32) (s1 : Int32) : Prop :=
    k4 M (s1 ||| s0) (a2 + (1 : Int32))
set_option maxHeartbeats 4000000 in
set_option maxRecDepth 100000 in
theorem tX2_directories_26 {l : Launch} {E : xE} {v : Nat} {Q : Int32 → xM → Prop} {k4 : xM → Int32 → Int32 → Prop} (h_v : xVol v) (hk4 : ∀ (M : xM) (a1 : Int32) (a2 : Int32), k4 M a1 a2 → Gx l E mX2_directories (xRi Q) 4 M [some (.ref v), some (.int a1), some (.int a2)] []) (M : xM) (a2 : Int32) (s0 : Int32) (s1 : Int32) (h : wX2_directories_26 v Q k4 M a2 s0 s1) : Gx l E mX2_directories (xRi Q) 26 M [some (.ref v), none, some (.int a2)] [.int s0, .int s1] := by
  unfold wX2_directories_26 at h
  refine Gx_run (es := eX2_directories_26) (P := []) (M' := M) (L' := [some (.ref v), some (.int (s1 ||| s0)), some (.int (a2 + (1 : Int32)))]) (st' := []) (pc' := 31) kX2_directories_26 rfl trivial rfl ?_
  refine Gx_goto (off := -27) (tgt := 4) (by decide +kernel) (by decide) ?_
  refine Gx_mask [true, true, true] (L' := [some (.ref v), some (.int (s1 ||| s0)), some (.int (a2 + (1 : Int32)))]) rfl ?_
  exact hk4 M (s1 ||| s0) (a2 + (1 : Int32)) h
def lX2_directories_4 (v : Nat) (Q : Int32 → xM → Prop) : Nat → xM → Int32 → Int32 → Prop
  | 0 => fun _ _ _ => False
  | n + 1 => let k4 := lX2_directories_4 v Q n; fun M a1 a2 =>
    ((((10 : Int32) ≤ a2) → (Q a1 M)) ∧ ((¬ (10 : Int32) ≤ a2) → (wX2_isDirectory M v a2 (fun r13 M13 => (((r13 = 0) → (wX2_directories_26 v Q k4 M13 a2 (0 : Int32) a1)) ∧ ((¬ r13 = 0) → (wX2_directories_26 v Q k4 M13 a2 ((1 : Int32) <<< (a2 &&& 31)) a1)))))))
set_option maxHeartbeats 4000000 in
set_option maxRecDepth 100000 in
theorem tX2_directories_4 {l : Launch} {E : xE} {v : Nat} {Q : Int32 → xM → Prop} (h_v : xVol v) (n : Nat) : ∀ (M : xM) (a1 : Int32) (a2 : Int32), lX2_directories_4 v Q n M a1 a2 → Gx l E mX2_directories (xRi Q) 4 M [some (.ref v), some (.int a1), some (.int a2)] [] := by
  induction n with
  | zero => intro M a1 a2 h; exact h.elim
  | succ n hk4 =>
      intro M a1 a2 h
      unfold lX2_directories_4 at h
      dsimp only at h
      refine Gx_run (es := eX2_directories_4) (P := []) (M' := M) (L' := [some (.ref v), some (.int a1), some (.int a2)]) (st' := [.int (10 : Int32), .int a2]) (pc' := 7) kX2_directories_4 rfl trivial rfl ?_
      refine Gx_icmp_ge (off := 27) (tgt := 34) (by decide +kernel) (by decide) (fun z => ?_) (fun z => ?_)
      · have h := h.1 z
        refine Gx_run (es := eX2_directories_34) (P := []) (M' := M) (L' := [some (.ref v), some (.int a1), some (.int a2)]) (st' := [.int a1]) (pc' := 35) kX2_directories_34 rfl trivial rfl ?_
        exact Gx_iret (by decide +kernel) rfl rfl ⟨_, rfl, h⟩
      · have h := h.2 z
        refine Gx_run (es := eX2_directories_10) (P := []) (M' := M) (L' := [some (.ref v), some (.int a1), some (.int a2)]) (st' := [.int a2, .ref v, .int a1]) (pc' := 13) kX2_directories_10 rfl trivial rfl ?_
        refine Gx_callV (As := [.int a2]) (by decide +kernel) ml_2_49 okX2_isDirectory mvX2_isDirectory rfl (by decide) (Nat.le_of_ble_eq_true rfl) (xVol_0 h_v) rfl rfl (tX2_isDirectory h_v h) (fun rr M13 qq => ?_)
        obtain ⟨r13, rfl, h⟩ := qq
        show Gx l E mX2_directories _ 16 M13 [some (.ref v), some (.int a1), some (.int a2)] [.int r13, .int a1]
        refine Gx_if_eq (off := 9) (tgt := 25) (by decide +kernel) (by decide) (fun z => ?_) (fun z => ?_)
        · have h := h.1 z
          refine Gx_run (es := eX2_directories_25) (P := []) (M' := M13) (L' := [some (.ref v), some (.int a1), some (.int a2)]) (st' := [.int (0 : Int32), .int a1]) (pc' := 26) kX2_directories_25 rfl trivial rfl ?_
          refine Gx_mask [true, false, true] (L' := [some (.ref v), none, some (.int a2)]) rfl ?_
          exact tX2_directories_26 h_v  hk4 M13 a2 (0 : Int32) a1 h
        · have h := h.2 z
          refine Gx_run (es := eX2_directories_19) (P := []) (M' := M13) (L' := [some (.ref v), some (.int a1), some (.int a2)]) (st' := [.int ((1 : Int32) <<< (a2 &&& 31)), .int a1]) (pc' := 22) kX2_directories_19 rfl trivial rfl ?_
          refine Gx_goto (off := 4) (tgt := 26) (by decide +kernel) (by decide) ?_
          refine Gx_mask [true, false, true] (L' := [some (.ref v), none, some (.int a2)]) rfl ?_
          exact tX2_directories_26 h_v  hk4 M13 a2 ((1 : Int32) <<< (a2 &&& 31)) a1 h
def wX2_directories (M : xM) (v : Nat) (Q : Int32 → xM → Prop) : Prop :=
    (∃ n : Nat, lX2_directories_4 v Q n M (0 : Int32) (0 : Int32))
set_option maxHeartbeats 4000000 in
set_option maxRecDepth 100000 in
theorem tX2_directories {l : Launch} {E : xE} {M : xM} {v : Nat} {Q : Int32 → xM → Prop} (h_v : xVol v) (h : wX2_directories M v Q) : Ct l E mX2_directories [.ref v] M (xRi Q) := by
  refine Ct_of (by decide +kernel) rfl (Nat.le_of_ble_eq_true rfl) ?_
  unfold wX2_directories at h
  show Gx l E mX2_directories (xRi Q) 0 M [some (.ref v), none, none] []
  refine Gx_run (es := eX2_directories_0) (P := []) (M' := M) (L' := [some (.ref v), some (.int (0 : Int32)), some (.int (0 : Int32))]) (st' := []) (pc' := 4) kX2_directories_0 rfl trivial rfl ?_
  refine Gx_mask [true, true, true] (L' := [some (.ref v), some (.int (0 : Int32)), some (.int (0 : Int32))]) rfl ?_
  obtain ⟨n, h⟩ := h
  exact tX2_directories_4 h_v  n M (0 : Int32) (0 : Int32) h
def eX2_enteredByThese_0 : List xI := [(.iconst 0, 1, 0, 0, (0)), (.istore_n 2, 1, 0, 0, 0), (.iconst 0, 1, 0, 0, (0)), (.istore_n 3, 1, 0, 0, 0)]
theorem kX2_enteredByThese_0 : xcode (xmb mX2_enteredByThese) (xmo mX2_enteredByThese) 0 eX2_enteredByThese_0 = true := by decide +kernel
def eX2_enteredByThese_4 : List xI := [(.iload_n 3, 1, 0, 0, 0), (.bipush 10, 2, 0, 0, (10))]
theorem kX2_enteredByThese_4 : xcode (xmb mX2_enteredByThese) (xmo mX2_enteredByThese) 4 eX2_enteredByThese_4 = true := by decide +kernel
def eX2_enteredByThese_36 : List xI := [(.iload_n 2, 1, 0, 0, 0)]
theorem kX2_enteredByThese_36 : xcode (xmb mX2_enteredByThese) (xmo mX2_enteredByThese) 36 eX2_enteredByThese_36 = true := by decide +kernel
def eX2_enteredByThese_10 : List xI := [(.iload_n 2, 1, 0, 0, 0), (.iload_n 1, 1, 0, 0, 0), (.iload_n 3, 1, 0, 0, 0), (.ishr, 1, 0, 0, 0), (.iconst 1, 1, 0, 0, (1)), (.iand, 1, 0, 0, 0)]
theorem kX2_enteredByThese_10 : xcode (xmb mX2_enteredByThese) (xmo mX2_enteredByThese) 10 eX2_enteredByThese_10 = true := by decide +kernel
def eX2_enteredByThese_27 : List xI := [(.iconst 0, 1, 0, 0, (0))]
theorem kX2_enteredByThese_27 : xcode (xmb mX2_enteredByThese) (xmo mX2_enteredByThese) 27 eX2_enteredByThese_27 = true := by decide +kernel
def eX2_enteredByThese_28 : List xI := [(.ior, 1, 0, 0, 0), (.istore_n 2, 1, 0, 0, 0), (.iinc 3 1, 3, 0, 0, (1))]
theorem kX2_enteredByThese_28 : xcode (xmb mX2_enteredByThese) (xmo mX2_enteredByThese) 28 eX2_enteredByThese_28 = true := by decide +kernel
def eX2_enteredByThese_19 : List xI := [(.aload_n 0, 1, 0, 0, 0), (.iload_n 3, 1, 0, 0, 0)]
theorem kX2_enteredByThese_19 : xcode (xmb mX2_enteredByThese) (xmo mX2_enteredByThese) 19 eX2_enteredByThese_19 = true := by decide +kernel
def wX2_enteredByThese_28 (v : Nat) (p1 : Int32) (Q : Int32 → xM → Prop) (k4 : xM → Int32 → Int32 → Prop) (M : xM) (a3 : Int32) (s0 : Int32) (s1 : Int32) : Prop :=
    k4 M (s1 ||| s0) (a3 + (1 : Int32))
set_option maxHeartbeats 4000000 in
set_option maxRecDepth 100000 in
theorem tX2_enteredByThese_28 {l : Launch} {E : xE} {v : Nat} {p1 : Int32} {Q : Int32 → xM → Prop} {k4 : xM → Int32 → Int32 → Prop} (h_v : xVol v) (hk4 : ∀ (M : xM) (a2 : Int32) (a3 : Int32), k4 M a2 a3 → Gx l E mX2_enteredByThese (xRi Q) 4 M [some (.ref v), some (.int p1), some (.int a2), some (.int a3)] []) (M : xM) (a3 : Int32) (s0 : Int32) (s1 : Int32) (h : wX2_enteredByThese_28 v p1 Q k4 M a3 s0 s1) : Gx l E mX2_enteredByThese (xRi Q) 28 M [some (.ref v), some (.int p1), none, some (.int a3)] [.int s0, .int s1] := by
  unfold wX2_enteredByThese_28 at h
  refine Gx_run (es := eX2_enteredByThese_28) (P := []) (M' := M) (L' := [some (.ref v), some (.int p1), some (.int (s1 ||| s0)), some (.int (a3 + (1 : Int32)))]) (st' := []) (pc' := 33) kX2_enteredByThese_28 rfl trivial rfl ?_
  refine Gx_goto (off := -29) (tgt := 4) (by decide +kernel) (by decide) ?_
  refine Gx_mask [true, true, true, true] (L' := [some (.ref v), some (.int p1), some (.int (s1 ||| s0)), some (.int (a3 + (1 : Int32)))]) rfl ?_
  exact hk4 M (s1 ||| s0) (a3 + (1 : Int32)) h
def lX2_enteredByThese_4 (v : Nat) (p1 : Int32) (Q : Int32 → xM → Prop) : Nat → xM → Int32 → Int32 → Prop
  | 0 => fun _ _ _ => False
  | n + 1 => let k4 := lX2_enteredByThese_4 v p1 Q n; fun M a2 a3 =>
    ((((10 : Int32) ≤ a3) → (Q a2 M)) ∧ ((¬ (10 : Int32) ≤ a3) → ((((((p1 >>> (a3 &&& 31)) &&& (1 : Int32)) = 0) → (wX2_enteredByThese_28 v p1 Q k4 M a3 (0 : Int32) a2)) ∧ ((¬ ((p1 >>> (a3 &&& 31)) &&& (1 : Int32)) = 0) → (wX2_enteredBy M v a3 (fun r21 M21 => wX2_enteredByThese_28 v p1 Q k4 M21 a3 r21 a2)))))))
set_option maxHeartbeats 4000000 in
set_option maxRecDepth 100000 in
theorem tX2_enteredByThese_4 {l : Launch} {E : xE} {v : Nat} {p1 : Int32} {Q : Int32 → xM → Prop} (h_v : xVol v) (n : Nat) : ∀ (M : xM) (a2 : Int32) (a3 : Int32), lX2_enteredByThese_4 v p1 Q n M a2 a3 → Gx l E mX2_enteredByThese (xRi Q) 4 M [some (.ref v), some (.int p1), some (.int a2), some (.int a3)] [] := by
  induction n with
  | zero => intro M a2 a3 h; exact h.elim
  | succ n hk4 =>
      intro M a2 a3 h
      unfold lX2_enteredByThese_4 at h
      dsimp only at h
      refine Gx_run (es := eX2_enteredByThese_4) (P := []) (M' := M) (L' := [some (.ref v), some (.int p1), some (.int a2), some (.int a3)]) (st' := [.int (10 : Int32), .int a3]) (pc' := 7) kX2_enteredByThese_4 rfl trivial rfl ?_
      refine Gx_icmp_ge (off := 29) (tgt := 36) (by decide +kernel) (by decide) (fun z => ?_) (fun z => ?_)
      · have h := h.1 z
        refine Gx_run (es := eX2_enteredByThese_36) (P := []) (M' := M) (L' := [some (.ref v), some (.int p1), some (.int a2), some (.int a3)]) (st' := [.int a2]) (pc' := 37) kX2_enteredByThese_36 rfl trivial rfl ?_
        exact Gx_iret (by decide +kernel) rfl rfl ⟨_, rfl, h⟩
      · have h := h.2 z
        refine Gx_run (es := eX2_enteredByThese_10) (P := []) (M' := M) (L' := [some (.ref v), some (.int p1), some (.int a2), some (.int a3)]) (st' := [.int ((p1 >>> (a3 &&& 31)) &&& (1 : Int32)), .int a2]) (pc' := 16) kX2_enteredByThese_10 rfl trivial rfl ?_
        refine Gx_if_eq (off := 11) (tgt := 27) (by decide +kernel) (by decide) (fun z => ?_) (fun z => ?_)
        · have h := h.1 z
          refine Gx_run (es := eX2_enteredByThese_27) (P := []) (M' := M) (L' := [some (.ref v), some (.int p1), some (.int a2), some (.int a3)]) (st' := [.int (0 : Int32), .int a2]) (pc' := 28) kX2_enteredByThese_27 rfl trivial rfl ?_
          refine Gx_mask [true, true, false, true] (L' := [some (.ref v), some (.int p1), none, some (.int a3)]) rfl ?_
          exact tX2_enteredByThese_28 h_v  hk4 M a3 (0 : Int32) a2 h
        · have h := h.2 z
          refine Gx_run (es := eX2_enteredByThese_19) (P := []) (M' := M) (L' := [some (.ref v), some (.int p1), some (.int a2), some (.int a3)]) (st' := [.int a3, .ref v, .int a2]) (pc' := 21) kX2_enteredByThese_19 rfl trivial rfl ?_
          refine Gx_callV (As := [.int a3]) (by decide +kernel) ml_2_74 okX2_enteredBy mvX2_enteredBy rfl (by decide) (Nat.le_of_ble_eq_true rfl) (xVol_0 h_v) rfl rfl (tX2_enteredBy h_v h) (fun rr M21 qq => ?_)
          obtain ⟨r21, rfl, h⟩ := qq
          show Gx l E mX2_enteredByThese _ 24 M21 [some (.ref v), some (.int p1), some (.int a2), some (.int a3)] [.int r21, .int a2]
          refine Gx_goto (off := 4) (tgt := 28) (by decide +kernel) (by decide) ?_
          refine Gx_mask [true, true, false, true] (L' := [some (.ref v), some (.int p1), none, some (.int a3)]) rfl ?_
          exact tX2_enteredByThese_28 h_v  hk4 M21 a3 r21 a2 h
def wX2_enteredByThese (M : xM) (v : Nat) (p1 : Int32) (Q : Int32 → xM → Prop) : Prop :=
    (∃ n : Nat, lX2_enteredByThese_4 v p1 Q n M (0 : Int32) (0 : Int32))
set_option maxHeartbeats 4000000 in
set_option maxRecDepth 100000 in
theorem tX2_enteredByThese {l : Launch} {E : xE} {M : xM} {v : Nat} {p1 : Int32} {Q : Int32 → xM → Prop} (h_v : xVol v) (h : wX2_enteredByThese M v p1 Q) : Ct l E mX2_enteredByThese [.ref v, .int p1] M (xRi Q) := by
  refine Ct_of (by decide +kernel) rfl (Nat.le_of_ble_eq_true rfl) ?_
  unfold wX2_enteredByThese at h
  show Gx l E mX2_enteredByThese (xRi Q) 0 M [some (.ref v), some (.int p1), none, none] []
  refine Gx_run (es := eX2_enteredByThese_0) (P := []) (M' := M) (L' := [some (.ref v), some (.int p1), some (.int (0 : Int32)), some (.int (0 : Int32))]) (st' := []) (pc' := 4) kX2_enteredByThese_0 rfl trivial rfl ?_
  refine Gx_mask [true, true, true, true] (L' := [some (.ref v), some (.int p1), some (.int (0 : Int32)), some (.int (0 : Int32))]) rfl ?_
  obtain ⟨n, h⟩ := h
  exact tX2_enteredByThese_4 h_v  n M (0 : Int32) (0 : Int32) h
def eX2_entriesInAll_0 : List xI := [(.iconst 0, 1, 0, 0, (0)), (.istore_n 1, 1, 0, 0, 0), (.iconst 0, 1, 0, 0, (0)), (.istore_n 2, 1, 0, 0, 0)]
theorem kX2_entriesInAll_0 : xcode (xmb mX2_entriesInAll) (xmo mX2_entriesInAll) 0 eX2_entriesInAll_0 = true := by decide +kernel
def eX2_entriesInAll_4 : List xI := [(.iload_n 2, 1, 0, 0, 0), (.bipush 10, 2, 0, 0, (10))]
theorem kX2_entriesInAll_4 : xcode (xmb mX2_entriesInAll) (xmo mX2_entriesInAll) 4 eX2_entriesInAll_4 = true := by decide +kernel
def eX2_entriesInAll_24 : List xI := [(.iload_n 1, 1, 0, 0, 0)]
theorem kX2_entriesInAll_24 : xcode (xmb mX2_entriesInAll) (xmo mX2_entriesInAll) 24 eX2_entriesInAll_24 = true := by decide +kernel
def eX2_entriesInAll_10 : List xI := [(.iload_n 1, 1, 0, 0, 0), (.aload_n 0, 1, 0, 0, 0), (.iload_n 2, 1, 0, 0, 0)]
theorem kX2_entriesInAll_10 : xcode (xmb mX2_entriesInAll) (xmo mX2_entriesInAll) 10 eX2_entriesInAll_10 = true := by decide +kernel
def eX2_entriesInAll_16 : List xI := [(.iadd, 1, 0, 0, 0), (.istore_n 1, 1, 0, 0, 0), (.iinc 2 1, 3, 0, 0, (1))]
theorem kX2_entriesInAll_16 : xcode (xmb mX2_entriesInAll) (xmo mX2_entriesInAll) 16 eX2_entriesInAll_16 = true := by decide +kernel
def lX2_entriesInAll_4 (v : Nat) (Q : Int32 → xM → Prop) : Nat → xM → Int32 → Int32 → Prop
  | 0 => fun _ _ _ => False
  | n + 1 => let k4 := lX2_entriesInAll_4 v Q n; fun M a1 a2 =>
    ((((10 : Int32) ≤ a2) → (Q a1 M)) ∧ ((¬ (10 : Int32) ≤ a2) → (wX2_entriesIn M v a2 (fun r13 M13 => k4 M13 (a1 + r13) (a2 + (1 : Int32))))))
set_option maxHeartbeats 4000000 in
set_option maxRecDepth 100000 in
theorem tX2_entriesInAll_4 {l : Launch} {E : xE} {v : Nat} {Q : Int32 → xM → Prop} (h_v : xVol v) (n : Nat) : ∀ (M : xM) (a1 : Int32) (a2 : Int32), lX2_entriesInAll_4 v Q n M a1 a2 → Gx l E mX2_entriesInAll (xRi Q) 4 M [some (.ref v), some (.int a1), some (.int a2)] [] := by
  induction n with
  | zero => intro M a1 a2 h; exact h.elim
  | succ n hk4 =>
      intro M a1 a2 h
      unfold lX2_entriesInAll_4 at h
      dsimp only at h
      refine Gx_run (es := eX2_entriesInAll_4) (P := []) (M' := M) (L' := [some (.ref v), some (.int a1), some (.int a2)]) (st' := [.int (10 : Int32), .int a2]) (pc' := 7) kX2_entriesInAll_4 rfl trivial rfl ?_
      refine Gx_icmp_ge (off := 17) (tgt := 24) (by decide +kernel) (by decide) (fun z => ?_) (fun z => ?_)
      · have h := h.1 z
        refine Gx_run (es := eX2_entriesInAll_24) (P := []) (M' := M) (L' := [some (.ref v), some (.int a1), some (.int a2)]) (st' := [.int a1]) (pc' := 25) kX2_entriesInAll_24 rfl trivial rfl ?_
        exact Gx_iret (by decide +kernel) rfl rfl ⟨_, rfl, h⟩
      · have h := h.2 z
        refine Gx_run (es := eX2_entriesInAll_10) (P := []) (M' := M) (L' := [some (.ref v), some (.int a1), some (.int a2)]) (st' := [.int a2, .ref v, .int a1]) (pc' := 13) kX2_entriesInAll_10 rfl trivial rfl ?_
        refine Gx_callV (As := [.int a2]) (by decide +kernel) ml_2_71 okX2_entriesIn mvX2_entriesIn rfl (by decide) (Nat.le_of_ble_eq_true rfl) (xVol_0 h_v) rfl rfl (tX2_entriesIn h_v h) (fun rr M13 qq => ?_)
        obtain ⟨r13, rfl, h⟩ := qq
        show Gx l E mX2_entriesInAll _ 16 M13 [some (.ref v), some (.int a1), some (.int a2)] [.int r13, .int a1]
        refine Gx_run (es := eX2_entriesInAll_16) (P := []) (M' := M13) (L' := [some (.ref v), some (.int (a1 + r13)), some (.int (a2 + (1 : Int32)))]) (st' := []) (pc' := 21) kX2_entriesInAll_16 rfl trivial rfl ?_
        refine Gx_goto (off := -17) (tgt := 4) (by decide +kernel) (by decide) ?_
        refine Gx_mask [true, true, true] (L' := [some (.ref v), some (.int (a1 + r13)), some (.int (a2 + (1 : Int32)))]) rfl ?_
        exact hk4 M13 (a1 + r13) (a2 + (1 : Int32)) h
def wX2_entriesInAll (M : xM) (v : Nat) (Q : Int32 → xM → Prop) : Prop :=
    (∃ n : Nat, lX2_entriesInAll_4 v Q n M (0 : Int32) (0 : Int32))
set_option maxHeartbeats 4000000 in
set_option maxRecDepth 100000 in
theorem tX2_entriesInAll {l : Launch} {E : xE} {M : xM} {v : Nat} {Q : Int32 → xM → Prop} (h_v : xVol v) (h : wX2_entriesInAll M v Q) : Ct l E mX2_entriesInAll [.ref v] M (xRi Q) := by
  refine Ct_of (by decide +kernel) rfl (Nat.le_of_ble_eq_true rfl) ?_
  unfold wX2_entriesInAll at h
  show Gx l E mX2_entriesInAll (xRi Q) 0 M [some (.ref v), none, none] []
  refine Gx_run (es := eX2_entriesInAll_0) (P := []) (M' := M) (L' := [some (.ref v), some (.int (0 : Int32)), some (.int (0 : Int32))]) (st' := []) (pc' := 4) kX2_entriesInAll_0 rfl trivial rfl ?_
  refine Gx_mask [true, true, true] (L' := [some (.ref v), some (.int (0 : Int32)), some (.int (0 : Int32))]) rfl ?_
  obtain ⟨n, h⟩ := h
  exact tX2_entriesInAll_4 h_v  n M (0 : Int32) (0 : Int32) h
def eX2_freeBlock_0 : List xI := [(.aload_n 0, 1, 0, 0, 0)]
theorem kX2_freeBlock_0 : xcode (xmb mX2_freeBlock) (xmo mX2_freeBlock) 0 eX2_freeBlock_0 = true := by decide +kernel
def eX2_freeBlock_4 : List xI := [(.iconst (-1), 1, 0, 0, (-1)), (.ixor, 1, 0, 0, 0)]
theorem kX2_freeBlock_4 : xcode (xmb mX2_freeBlock) (xmo mX2_freeBlock) 4 eX2_freeBlock_4 = true := by decide +kernel
def eX2_freeBlock_9 : List xI := [(.istore_n 1, 1, 0, 0, 0), (.iload_n 1, 1, 0, 0, 0), (.bipush 24, 2, 0, 0, (24))]
theorem kX2_freeBlock_9 : xcode (xmb mX2_freeBlock) (xmo mX2_freeBlock) 9 eX2_freeBlock_9 = true := by decide +kernel
def eX2_freeBlock_20 : List xI := [(.bipush (-9), 2, 0, 0, (-9))]
theorem kX2_freeBlock_20 : xcode (xmb mX2_freeBlock) (xmo mX2_freeBlock) 20 eX2_freeBlock_20 = true := by decide +kernel
def eX2_freeBlock_16 : List xI := [(.iload_n 1, 1, 0, 0, 0)]
theorem kX2_freeBlock_16 : xcode (xmb mX2_freeBlock) (xmo mX2_freeBlock) 16 eX2_freeBlock_16 = true := by decide +kernel
def wX2_freeBlock_22 (v : Nat) (Q : Int32 → xM → Prop) (M : xM) (s0 : Int32) : Prop :=
    Q s0 M
set_option maxHeartbeats 4000000 in
set_option maxRecDepth 100000 in
theorem tX2_freeBlock_22 {l : Launch} {E : xE} {v : Nat} {Q : Int32 → xM → Prop} (h_v : xVol v) (M : xM) (s0 : Int32) (h : wX2_freeBlock_22 v Q M s0) : Gx l E mX2_freeBlock (xRi Q) 22 M [none, none] [.int s0] := by
  unfold wX2_freeBlock_22 at h
  exact Gx_iret (by decide +kernel) rfl rfl ⟨_, rfl, h⟩
def wX2_freeBlock (M : xM) (v : Nat) (Q : Int32 → xM → Prop) : Prop :=
    wX2_blocksPointedAt M v (fun r1 M1 => wJ6_numberOfTrailingZeros_0f7a4 M1 (r1 ^^^ (-1 : Int32)) (fun r6 M6 => ((((24 : Int32) ≤ r6) → (wX2_freeBlock_22 v Q M6 (-9 : Int32))) ∧ ((¬ (24 : Int32) ≤ r6) → (wX2_freeBlock_22 v Q M6 r6)))))
set_option maxHeartbeats 4000000 in
set_option maxRecDepth 100000 in
theorem tX2_freeBlock {l : Launch} {E : xE} {M : xM} {v : Nat} {Q : Int32 → xM → Prop} (h_v : xVol v) (h : wX2_freeBlock M v Q) : Ct l E mX2_freeBlock [.ref v] M (xRi Q) := by
  refine Ct_of (by decide +kernel) rfl (Nat.le_of_ble_eq_true rfl) ?_
  unfold wX2_freeBlock at h
  show Gx l E mX2_freeBlock (xRi Q) 0 M [some (.ref v), none] []
  refine Gx_run (es := eX2_freeBlock_0) (P := []) (M' := M) (L' := [some (.ref v), none]) (st' := [.ref v]) (pc' := 1) kX2_freeBlock_0 rfl trivial rfl ?_
  refine Gx_callV (As := []) (by decide +kernel) ml_2_61 okX2_blocksPointedAt mvX2_blocksPointedAt rfl (by decide) (Nat.le_of_ble_eq_true rfl) (xVol_0 h_v) rfl rfl (tX2_blocksPointedAt h_v h) (fun rr M1 qq => ?_)
  obtain ⟨r1, rfl, h⟩ := qq
  show Gx l E mX2_freeBlock _ 4 M1 [some (.ref v), none] [.int r1]
  refine Gx_run (es := eX2_freeBlock_4) (P := []) (M' := M1) (L' := [some (.ref v), none]) (st' := [.int (r1 ^^^ (-1 : Int32))]) (pc' := 6) kX2_freeBlock_4 rfl trivial rfl ?_
  refine Gx_callS (As := [.int (r1 ^^^ (-1 : Int32))]) (by decide +kernel) ml_2_65 okJ6_numberOfTrailingZeros_0f7a4 mvJ6_numberOfTrailingZeros_0f7a4 rfl (by decide) (Nat.le_of_ble_eq_true rfl) (tJ6_numberOfTrailingZeros_0f7a4 h) (fun rr M6 qq => ?_)
  obtain ⟨r6, rfl, h⟩ := qq
  show Gx l E mX2_freeBlock _ 9 M6 [some (.ref v), none] [.int r6]
  refine Gx_run (es := eX2_freeBlock_9) (P := []) (M' := M6) (L' := [some (.ref v), some (.int r6)]) (st' := [.int (24 : Int32), .int r6]) (pc' := 13) kX2_freeBlock_9 rfl trivial rfl ?_
  refine Gx_icmp_ge (off := 7) (tgt := 20) (by decide +kernel) (by decide) (fun z => ?_) (fun z => ?_)
  · have h := h.1 z
    refine Gx_run (es := eX2_freeBlock_20) (P := []) (M' := M6) (L' := [some (.ref v), some (.int r6)]) (st' := [.int (-9 : Int32)]) (pc' := 22) kX2_freeBlock_20 rfl trivial rfl ?_
    refine Gx_mask [false, false] (L' := [none, none]) rfl ?_
    exact tX2_freeBlock_22 h_v  M6 (-9 : Int32) h
  · have h := h.2 z
    refine Gx_run (es := eX2_freeBlock_16) (P := []) (M' := M6) (L' := [some (.ref v), some (.int r6)]) (st' := [.int r6]) (pc' := 17) kX2_freeBlock_16 rfl trivial rfl ?_
    refine Gx_goto (off := 5) (tgt := 22) (by decide +kernel) (by decide) ?_
    refine Gx_mask [false, false] (L' := [none, none]) rfl ?_
    exact tX2_freeBlock_22 h_v  M6 r6 h
def eX2_freeNameIn_0 : List xI := [(.iconst 0, 1, 0, 0, (0)), (.istore_n 2, 1, 0, 0, 0), (.iconst 0, 1, 0, 0, (0)), (.istore_n 3, 1, 0, 0, 0)]
theorem kX2_freeNameIn_0 : xcode (xmb mX2_freeNameIn) (xmo mX2_freeNameIn) 0 eX2_freeNameIn_0 = true := by decide +kernel
def eX2_freeNameIn_4 : List xI := [(.iload_n 3, 1, 0, 0, 0), (.bipush 6, 2, 0, 0, (6))]
theorem kX2_freeNameIn_4 : xcode (xmb mX2_freeNameIn) (xmo mX2_freeNameIn) 4 eX2_freeNameIn_4 = true := by decide +kernel
def eX2_freeNameIn_50 : List xI := [(.iload_n 2, 1, 0, 0, 0), (.iconst (-1), 1, 0, 0, (-1)), (.ixor, 1, 0, 0, 0)]
theorem kX2_freeNameIn_50 : xcode (xmb mX2_freeNameIn) (xmo mX2_freeNameIn) 50 eX2_freeNameIn_50 = true := by decide +kernel
def eX2_freeNameIn_10 : List xI := [(.aload_n 0, 1, 0, 0, 0), (.getfield 24, 3, 2, 4, 0), (.bipush 6, 2, 0, 0, (6)), (.iload_n 1, 1, 0, 0, 0), (.imul, 1, 0, 0, 0), (.iload_n 3, 1, 0, 0, 0), (.iadd, 1, 0, 0, 0), (.iaload, 1, 0, 0, 0), (.istore 4, 2, 0, 0, 0), (.iload_n 2, 1, 0, 0, 0), (.iload 4, 2, 0, 0, 0), (.bipush (-9), 2, 0, 0, (-9))]
theorem kX2_freeNameIn_10 : xcode (xmb mX2_freeNameIn) (xmo mX2_freeNameIn) 10 eX2_freeNameIn_10 = true := by decide +kernel
def eX2_freeNameIn_41 : List xI := [(.iconst 0, 1, 0, 0, (0))]
theorem kX2_freeNameIn_41 : xcode (xmb mX2_freeNameIn) (xmo mX2_freeNameIn) 41 eX2_freeNameIn_41 = true := by decide +kernel
def eX2_freeNameIn_42 : List xI := [(.ior, 1, 0, 0, 0), (.istore_n 2, 1, 0, 0, 0), (.iinc 3 1, 3, 0, 0, (1))]
theorem kX2_freeNameIn_42 : xcode (xmb mX2_freeNameIn) (xmo mX2_freeNameIn) 42 eX2_freeNameIn_42 = true := by decide +kernel
def eX2_freeNameIn_31 : List xI := [(.iconst 1, 1, 0, 0, (1)), (.iload 4, 2, 0, 0, 0), (.bipush 26, 2, 0, 0, (26)), (.irem, 1, 0, 0, 0), (.ishl, 1, 0, 0, 0)]
theorem kX2_freeNameIn_31 : xcode (xmb mX2_freeNameIn) (xmo mX2_freeNameIn) 31 eX2_freeNameIn_31 = true := by decide +kernel
def wX2_freeNameIn_42 (v : Nat) (p1 : Int32) (Q : Int32 → xM → Prop) (k4 : xM → Int32 → Int32 → Prop) (M : xM) (a3 : Int32) (s0 : Int32) (s1 : Int32) : Prop :=
    k4 M (s1 ||| s0) (a3 + (1 : Int32))
set_option maxHeartbeats 4000000 in
set_option maxRecDepth 100000 in
theorem tX2_freeNameIn_42 {l : Launch} {E : xE} {v : Nat} {p1 : Int32} {Q : Int32 → xM → Prop} {k4 : xM → Int32 → Int32 → Prop} (h_v : xVol v) (hk4 : ∀ (M : xM) (a2 : Int32) (a3 : Int32), k4 M a2 a3 → Gx l E mX2_freeNameIn (xRi Q) 4 M [some (.ref v), some (.int p1), some (.int a2), some (.int a3), none] []) (M : xM) (a3 : Int32) (s0 : Int32) (s1 : Int32) (h : wX2_freeNameIn_42 v p1 Q k4 M a3 s0 s1) : Gx l E mX2_freeNameIn (xRi Q) 42 M [some (.ref v), some (.int p1), none, some (.int a3), none] [.int s0, .int s1] := by
  unfold wX2_freeNameIn_42 at h
  refine Gx_run (es := eX2_freeNameIn_42) (P := []) (M' := M) (L' := [some (.ref v), some (.int p1), some (.int (s1 ||| s0)), some (.int (a3 + (1 : Int32))), none]) (st' := []) (pc' := 47) kX2_freeNameIn_42 rfl trivial rfl ?_
  refine Gx_goto (off := -43) (tgt := 4) (by decide +kernel) (by decide) ?_
  refine Gx_mask [true, true, true, true, false] (L' := [some (.ref v), some (.int p1), some (.int (s1 ||| s0)), some (.int (a3 + (1 : Int32))), none]) rfl ?_
  exact hk4 M (s1 ||| s0) (a3 + (1 : Int32)) h
def lX2_freeNameIn_4 (v : Nat) (p1 : Int32) (Q : Int32 → xM → Prop) : Nat → xM → Int32 → Int32 → Prop
  | 0 => fun _ _ _ => False
  | n + 1 => let k4 := lX2_freeNameIn_4 v p1 Q n; fun M a2 a3 =>
    ((((6 : Int32) ≤ a3) → (wJ6_numberOfTrailingZeros_0f7a4 M (a2 ^^^ (-1 : Int32)) (fun r53 M53 => Q r53 M53))) ∧ ((¬ (6 : Int32) ≤ a3) → ((vp_in (((6 : Int32) * p1) + a3) 60) ∧ ((((M (v + 5) (((6 : Int32) * p1) + a3).toNatClampNeg) = (-9 : Int32)) → (wX2_freeNameIn_42 v p1 Q k4 M a3 (0 : Int32) a2)) ∧ ((¬ (M (v + 5) (((6 : Int32) * p1) + a3).toNatClampNeg) = (-9 : Int32)) → (wX2_freeNameIn_42 v p1 Q k4 M a3 ((1 : Int32) <<< (((M (v + 5) (((6 : Int32) * p1) + a3).toNatClampNeg) - (M (v + 5) (((6 : Int32) * p1) + a3).toNatClampNeg) / (26 : Int32) * (26 : Int32)) &&& 31)) a2))))))
set_option maxHeartbeats 4000000 in
set_option maxRecDepth 100000 in
theorem tX2_freeNameIn_4 {l : Launch} {E : xE} {v : Nat} {p1 : Int32} {Q : Int32 → xM → Prop} (h_v : xVol v) (n : Nat) : ∀ (M : xM) (a2 : Int32) (a3 : Int32), lX2_freeNameIn_4 v p1 Q n M a2 a3 → Gx l E mX2_freeNameIn (xRi Q) 4 M [some (.ref v), some (.int p1), some (.int a2), some (.int a3), none] [] := by
  induction n with
  | zero => intro M a2 a3 h; exact h.elim
  | succ n hk4 =>
      intro M a2 a3 h
      unfold lX2_freeNameIn_4 at h
      dsimp only at h
      refine Gx_run (es := eX2_freeNameIn_4) (P := []) (M' := M) (L' := [some (.ref v), some (.int p1), some (.int a2), some (.int a3), none]) (st' := [.int (6 : Int32), .int a3]) (pc' := 7) kX2_freeNameIn_4 rfl trivial rfl ?_
      refine Gx_icmp_ge (off := 43) (tgt := 50) (by decide +kernel) (by decide) (fun z => ?_) (fun z => ?_)
      · have h := h.1 z
        refine Gx_run (es := eX2_freeNameIn_50) (P := []) (M' := M) (L' := [some (.ref v), some (.int p1), some (.int a2), some (.int a3), none]) (st' := [.int (a2 ^^^ (-1 : Int32))]) (pc' := 53) kX2_freeNameIn_50 rfl trivial rfl ?_
        refine Gx_callS (As := [.int (a2 ^^^ (-1 : Int32))]) (by decide +kernel) ml_2_65 okJ6_numberOfTrailingZeros_0f7a4 mvJ6_numberOfTrailingZeros_0f7a4 rfl (by decide) (Nat.le_of_ble_eq_true rfl) (tJ6_numberOfTrailingZeros_0f7a4 h) (fun rr M53 qq => ?_)
        obtain ⟨r53, rfl, h⟩ := qq
        show Gx l E mX2_freeNameIn _ 56 M53 [some (.ref v), some (.int p1), some (.int a2), some (.int a3), none] [.int r53]
        exact Gx_iret (by decide +kernel) rfl rfl ⟨_, rfl, h⟩
      · have h := h.2 z
        obtain ⟨g10_0, h⟩ := h
        refine Gx_run (es := eX2_freeNameIn_10) (P := [xkd v = 2, xkd (v + 5) = 5, vp_in (((6 : Int32) * p1) + a3) (xln (v + 5))]) (M' := M) (L' := [some (.ref v), some (.int p1), some (.int a2), some (.int a3), some (.int (M (v + 5) (((6 : Int32) * p1) + a3).toNatClampNeg))]) (st' := [.int (-9 : Int32), .int (M (v + 5) (((6 : Int32) * p1) + a3).toNatClampNeg), .int a2]) (pc' := 28) kX2_freeNameIn_10 rfl ⟨(xVol_0 h_v), (xVol_5 h_v), (by rw [xVol_l5 h_v]; exact g10_0), trivial⟩ rfl ?_
        refine Gx_icmp_eq (off := 13) (tgt := 41) (by decide +kernel) (by decide) (fun z => ?_) (fun z => ?_)
        · have h := h.1 z
          refine Gx_run (es := eX2_freeNameIn_41) (P := []) (M' := M) (L' := [some (.ref v), some (.int p1), some (.int a2), some (.int a3), some (.int (M (v + 5) (((6 : Int32) * p1) + a3).toNatClampNeg))]) (st' := [.int (0 : Int32), .int a2]) (pc' := 42) kX2_freeNameIn_41 rfl trivial rfl ?_
          refine Gx_mask [true, true, false, true, false] (L' := [some (.ref v), some (.int p1), none, some (.int a3), none]) rfl ?_
          exact tX2_freeNameIn_42 h_v  hk4 M a3 (0 : Int32) a2 h
        · have h := h.2 z
          refine Gx_run (es := eX2_freeNameIn_31) (P := [¬ (26 : Int32) = 0]) (M' := M) (L' := [some (.ref v), some (.int p1), some (.int a2), some (.int a3), some (.int (M (v + 5) (((6 : Int32) * p1) + a3).toNatClampNeg))]) (st' := [.int ((1 : Int32) <<< (((M (v + 5) (((6 : Int32) * p1) + a3).toNatClampNeg) - (M (v + 5) (((6 : Int32) * p1) + a3).toNatClampNeg) / (26 : Int32) * (26 : Int32)) &&& 31)), .int a2]) (pc' := 38) kX2_freeNameIn_31 rfl ⟨(by decide), trivial⟩ rfl ?_
          refine Gx_goto (off := 4) (tgt := 42) (by decide +kernel) (by decide) ?_
          refine Gx_mask [true, true, false, true, false] (L' := [some (.ref v), some (.int p1), none, some (.int a3), none]) rfl ?_
          exact tX2_freeNameIn_42 h_v  hk4 M a3 ((1 : Int32) <<< (((M (v + 5) (((6 : Int32) * p1) + a3).toNatClampNeg) - (M (v + 5) (((6 : Int32) * p1) + a3).toNatClampNeg) / (26 : Int32) * (26 : Int32)) &&& 31)) a2 h
def wX2_freeNameIn (M : xM) (v : Nat) (p1 : Int32) (Q : Int32 → xM → Prop) : Prop :=
    (∃ n : Nat, lX2_freeNameIn_4 v p1 Q n M (0 : Int32) (0 : Int32))
set_option maxHeartbeats 4000000 in
set_option maxRecDepth 100000 in
theorem tX2_freeNameIn {l : Launch} {E : xE} {M : xM} {v : Nat} {p1 : Int32} {Q : Int32 → xM → Prop} (h_v : xVol v) (h : wX2_freeNameIn M v p1 Q) : Ct l E mX2_freeNameIn [.ref v, .int p1] M (xRi Q) := by
  refine Ct_of (by decide +kernel) rfl (Nat.le_of_ble_eq_true rfl) ?_
  unfold wX2_freeNameIn at h
  show Gx l E mX2_freeNameIn (xRi Q) 0 M [some (.ref v), some (.int p1), none, none, none] []
  refine Gx_run (es := eX2_freeNameIn_0) (P := []) (M' := M) (L' := [some (.ref v), some (.int p1), some (.int (0 : Int32)), some (.int (0 : Int32)), none]) (st' := []) (pc' := 4) kX2_freeNameIn_0 rfl trivial rfl ?_
  refine Gx_mask [true, true, true, true, false] (L' := [some (.ref v), some (.int p1), some (.int (0 : Int32)), some (.int (0 : Int32)), none]) rfl ?_
  obtain ⟨n, h⟩ := h
  exact tX2_freeNameIn_4 h_v  n M (0 : Int32) (0 : Int32) h
def eX2_takeFrom_0 : List xI := [(.aload_n 1, 1, 0, 0, 0), (.getfield 9, 3, 2, 0, 0), (.iconst 0, 1, 0, 0, (0)), (.aload_n 0, 1, 0, 0, 0), (.getfield 9, 3, 2, 0, 0), (.iconst 0, 1, 0, 0, (0)), (.bipush 10, 2, 0, 0, (10))]
theorem kX2_takeFrom_0 : xcode (xmb mX2_takeFrom) (xmo mX2_takeFrom) 0 eX2_takeFrom_0 = true := by decide +kernel
def eX2_takeFrom_15 : List xI := [(.aload_n 1, 1, 0, 0, 0), (.getfield 15, 3, 2, 1, 0), (.iconst 0, 1, 0, 0, (0)), (.aload_n 0, 1, 0, 0, 0), (.getfield 15, 3, 2, 1, 0), (.iconst 0, 1, 0, 0, (0)), (.bipush 10, 2, 0, 0, (10))]
theorem kX2_takeFrom_15 : xcode (xmb mX2_takeFrom) (xmo mX2_takeFrom) 15 eX2_takeFrom_15 = true := by decide +kernel
def eX2_takeFrom_30 : List xI := [(.aload_n 1, 1, 0, 0, 0), (.getfield 18, 3, 2, 2, 0), (.iconst 0, 1, 0, 0, (0)), (.aload_n 0, 1, 0, 0, 0), (.getfield 18, 3, 2, 2, 0), (.iconst 0, 1, 0, 0, (0)), (.bipush 10, 2, 0, 0, (10))]
theorem kX2_takeFrom_30 : xcode (xmb mX2_takeFrom) (xmo mX2_takeFrom) 30 eX2_takeFrom_30 = true := by decide +kernel
def eX2_takeFrom_45 : List xI := [(.aload_n 1, 1, 0, 0, 0), (.getfield 21, 3, 2, 3, 0), (.iconst 0, 1, 0, 0, (0)), (.aload_n 0, 1, 0, 0, 0), (.getfield 21, 3, 2, 3, 0), (.iconst 0, 1, 0, 0, (0)), (.bipush 30, 2, 0, 0, (30))]
theorem kX2_takeFrom_45 : xcode (xmb mX2_takeFrom) (xmo mX2_takeFrom) 45 eX2_takeFrom_45 = true := by decide +kernel
def eX2_takeFrom_60 : List xI := [(.aload_n 1, 1, 0, 0, 0), (.getfield 24, 3, 2, 4, 0), (.iconst 0, 1, 0, 0, (0)), (.aload_n 0, 1, 0, 0, 0), (.getfield 24, 3, 2, 4, 0), (.iconst 0, 1, 0, 0, (0)), (.bipush 60, 2, 0, 0, (60))]
theorem kX2_takeFrom_60 : xcode (xmb mX2_takeFrom) (xmo mX2_takeFrom) 60 eX2_takeFrom_60 = true := by decide +kernel
def eX2_takeFrom_75 : List xI := [(.aload_n 1, 1, 0, 0, 0), (.getfield 27, 3, 2, 5, 0), (.iconst 0, 1, 0, 0, (0)), (.aload_n 0, 1, 0, 0, 0), (.getfield 27, 3, 2, 5, 0), (.iconst 0, 1, 0, 0, (0)), (.bipush 24, 2, 0, 0, (24))]
theorem kX2_takeFrom_75 : xcode (xmb mX2_takeFrom) (xmo mX2_takeFrom) 75 eX2_takeFrom_75 = true := by decide +kernel
def eX2_takeFrom_90 : List xI := [(.aload_n 0, 1, 0, 0, 0), (.aload_n 1, 1, 0, 0, 0), (.getfield 30, 3, 2, 6, 0), (.putfield 30, 3, 2, 6, 0), (.aload_n 0, 1, 0, 0, 0), (.aload_n 1, 1, 0, 0, 0), (.getfield 34, 3, 2, 7, 0), (.putfield 34, 3, 2, 7, 0)]
theorem kX2_takeFrom_90 : xcode (xmb mX2_takeFrom) (xmo mX2_takeFrom) 90 eX2_takeFrom_90 = true := by decide +kernel
def wX2_takeFrom (M : xM) (v : Nat) (p1 : Nat) (Q : xM → Prop) : Prop :=
    ∀ M12 : xM, M12 = (fun a => if a = (v + 1) then va_cpy (M (p1 + 1)) (M (v + 1)) (Int32.toNatClampNeg 0) (Int32.toNatClampNeg 0) (Int32.toNatClampNeg 10) else M a) → ∀ M27 : xM, M27 = (fun a => if a = (v + 2) then va_cpy (M12 (p1 + 2)) (M12 (v + 2)) (Int32.toNatClampNeg 0) (Int32.toNatClampNeg 0) (Int32.toNatClampNeg 10) else M12 a) → ∀ M42 : xM, M42 = (fun a => if a = (v + 3) then va_cpy (M27 (p1 + 3)) (M27 (v + 3)) (Int32.toNatClampNeg 0) (Int32.toNatClampNeg 0) (Int32.toNatClampNeg 10) else M27 a) → ∀ M57 : xM, M57 = (fun a => if a = (v + 4) then va_cpy (M42 (p1 + 4)) (M42 (v + 4)) (Int32.toNatClampNeg 0) (Int32.toNatClampNeg 0) (Int32.toNatClampNeg 30) else M42 a) → ∀ M72 : xM, M72 = (fun a => if a = (v + 5) then va_cpy (M57 (p1 + 5)) (M57 (v + 5)) (Int32.toNatClampNeg 0) (Int32.toNatClampNeg 0) (Int32.toNatClampNeg 60) else M57 a) → ∀ M87 : xM, M87 = (fun a => if a = (v + 6) then va_cpy (M72 (p1 + 6)) (M72 (v + 6)) (Int32.toNatClampNeg 0) (Int32.toNatClampNeg 0) (Int32.toNatClampNeg 24) else M72 a) → Q (xup (xup M87 v 6 (M87 p1 6)) v 7 ((xup M87 v 6 (M87 p1 6)) p1 7))
set_option maxHeartbeats 4000000 in
set_option maxRecDepth 100000 in
theorem tX2_takeFrom {l : Launch} {E : xE} {M : xM} {v : Nat} {p1 : Nat} {Q : xM → Prop} (h_v : xVol v) (h_p1 : xVol p1) (h : wX2_takeFrom M v p1 Q) : Ct l E mX2_takeFrom [.ref v, .ref p1] M (xRv Q) := by
  refine Ct_of (by decide +kernel) rfl (Nat.le_of_ble_eq_true rfl) ?_
  unfold wX2_takeFrom at h
  show Gx l E mX2_takeFrom (xRv Q) 0 M [some (.ref v), some (.ref p1)] []
  refine Gx_run (es := eX2_takeFrom_0) (P := [xkd p1 = 2, xkd v = 2]) (M' := M) (L' := [some (.ref v), some (.ref p1)]) (st' := [.int (10 : Int32), .int (0 : Int32), .ref (v + 1), .int (0 : Int32), .ref (p1 + 1)]) (pc' := 12) kX2_takeFrom_0 rfl ⟨(xVol_0 h_p1), (xVol_0 h_v), trivial⟩ rfl ?_
  refine Gx_copy (by decide +kernel) ml_2_43 xn_native xn_static xn_init (by decide) (by decide) (xVol_1 h_p1) (xVol_1 h_v) (by decide) (by decide) (by decide) (by rw [xVol_l1 h_p1]; decide) (by rw [xVol_l1 h_v]; decide) ?_
  obtain ⟨M12, eM12⟩ : ∃ y : xM, y = (fun a => if a = (v + 1) then va_cpy (M (p1 + 1)) (M (v + 1)) (Int32.toNatClampNeg 0) (Int32.toNatClampNeg 0) (Int32.toNatClampNeg 10) else M a) := ⟨_, rfl⟩
  rw [← eM12]
  replace h := h M12 eM12
  refine Gx_run (es := eX2_takeFrom_15) (P := [xkd p1 = 2, xkd v = 2]) (M' := M12) (L' := [some (.ref v), some (.ref p1)]) (st' := [.int (10 : Int32), .int (0 : Int32), .ref (v + 2), .int (0 : Int32), .ref (p1 + 2)]) (pc' := 27) kX2_takeFrom_15 rfl ⟨(xVol_0 h_p1), (xVol_0 h_v), trivial⟩ rfl ?_
  refine Gx_copy (by decide +kernel) ml_2_43 xn_native xn_static xn_init (by decide) (by decide) (xVol_2 h_p1) (xVol_2 h_v) (by decide) (by decide) (by decide) (by rw [xVol_l2 h_p1]; decide) (by rw [xVol_l2 h_v]; decide) ?_
  obtain ⟨M27, eM27⟩ : ∃ y : xM, y = (fun a => if a = (v + 2) then va_cpy (M12 (p1 + 2)) (M12 (v + 2)) (Int32.toNatClampNeg 0) (Int32.toNatClampNeg 0) (Int32.toNatClampNeg 10) else M12 a) := ⟨_, rfl⟩
  rw [← eM27]
  replace h := h M27 eM27
  refine Gx_run (es := eX2_takeFrom_30) (P := [xkd p1 = 2, xkd v = 2]) (M' := M27) (L' := [some (.ref v), some (.ref p1)]) (st' := [.int (10 : Int32), .int (0 : Int32), .ref (v + 3), .int (0 : Int32), .ref (p1 + 3)]) (pc' := 42) kX2_takeFrom_30 rfl ⟨(xVol_0 h_p1), (xVol_0 h_v), trivial⟩ rfl ?_
  refine Gx_copy (by decide +kernel) ml_2_43 xn_native xn_static xn_init (by decide) (by decide) (xVol_3 h_p1) (xVol_3 h_v) (by decide) (by decide) (by decide) (by rw [xVol_l3 h_p1]; decide) (by rw [xVol_l3 h_v]; decide) ?_
  obtain ⟨M42, eM42⟩ : ∃ y : xM, y = (fun a => if a = (v + 3) then va_cpy (M27 (p1 + 3)) (M27 (v + 3)) (Int32.toNatClampNeg 0) (Int32.toNatClampNeg 0) (Int32.toNatClampNeg 10) else M27 a) := ⟨_, rfl⟩
  rw [← eM42]
  replace h := h M42 eM42
  refine Gx_run (es := eX2_takeFrom_45) (P := [xkd p1 = 2, xkd v = 2]) (M' := M42) (L' := [some (.ref v), some (.ref p1)]) (st' := [.int (30 : Int32), .int (0 : Int32), .ref (v + 4), .int (0 : Int32), .ref (p1 + 4)]) (pc' := 57) kX2_takeFrom_45 rfl ⟨(xVol_0 h_p1), (xVol_0 h_v), trivial⟩ rfl ?_
  refine Gx_copy (by decide +kernel) ml_2_43 xn_native xn_static xn_init (by decide) (by decide) (xVol_4 h_p1) (xVol_4 h_v) (by decide) (by decide) (by decide) (by rw [xVol_l4 h_p1]; decide) (by rw [xVol_l4 h_v]; decide) ?_
  obtain ⟨M57, eM57⟩ : ∃ y : xM, y = (fun a => if a = (v + 4) then va_cpy (M42 (p1 + 4)) (M42 (v + 4)) (Int32.toNatClampNeg 0) (Int32.toNatClampNeg 0) (Int32.toNatClampNeg 30) else M42 a) := ⟨_, rfl⟩
  rw [← eM57]
  replace h := h M57 eM57
  refine Gx_run (es := eX2_takeFrom_60) (P := [xkd p1 = 2, xkd v = 2]) (M' := M57) (L' := [some (.ref v), some (.ref p1)]) (st' := [.int (60 : Int32), .int (0 : Int32), .ref (v + 5), .int (0 : Int32), .ref (p1 + 5)]) (pc' := 72) kX2_takeFrom_60 rfl ⟨(xVol_0 h_p1), (xVol_0 h_v), trivial⟩ rfl ?_
  refine Gx_copy (by decide +kernel) ml_2_43 xn_native xn_static xn_init (by decide) (by decide) (xVol_5 h_p1) (xVol_5 h_v) (by decide) (by decide) (by decide) (by rw [xVol_l5 h_p1]; decide) (by rw [xVol_l5 h_v]; decide) ?_
  obtain ⟨M72, eM72⟩ : ∃ y : xM, y = (fun a => if a = (v + 5) then va_cpy (M57 (p1 + 5)) (M57 (v + 5)) (Int32.toNatClampNeg 0) (Int32.toNatClampNeg 0) (Int32.toNatClampNeg 60) else M57 a) := ⟨_, rfl⟩
  rw [← eM72]
  replace h := h M72 eM72
  refine Gx_run (es := eX2_takeFrom_75) (P := [xkd p1 = 2, xkd v = 2]) (M' := M72) (L' := [some (.ref v), some (.ref p1)]) (st' := [.int (24 : Int32), .int (0 : Int32), .ref (v + 6), .int (0 : Int32), .ref (p1 + 6)]) (pc' := 87) kX2_takeFrom_75 rfl ⟨(xVol_0 h_p1), (xVol_0 h_v), trivial⟩ rfl ?_
  refine Gx_copy (by decide +kernel) ml_2_43 xn_native xn_static xn_init (by decide) (by decide) (xVol_6 h_p1) (xVol_6 h_v) (by decide) (by decide) (by decide) (by rw [xVol_l6 h_p1]; decide) (by rw [xVol_l6 h_v]; decide) ?_
  obtain ⟨M87, eM87⟩ : ∃ y : xM, y = (fun a => if a = (v + 6) then va_cpy (M72 (p1 + 6)) (M72 (v + 6)) (Int32.toNatClampNeg 0) (Int32.toNatClampNeg 0) (Int32.toNatClampNeg 24) else M72 a) := ⟨_, rfl⟩
  rw [← eM87]
  replace h := h M87 eM87
  refine Gx_run (es := eX2_takeFrom_90) (P := [xkd p1 = 2, xkd v = 2, xkd p1 = 2, xkd v = 2]) (M' := (xup (xup M87 v 6 (M87 p1 6)) v 7 ((xup M87 v 6 (M87 p1 6)) p1 7))) (L' := [some (.ref v), some (.ref p1)]) (st' := []) (pc' := 106) kX2_takeFrom_90 rfl ⟨(xVol_0 h_p1), (xVol_0 h_v), (xVol_0 h_p1), (xVol_0 h_v), trivial⟩ rfl ?_
  exact Gx_vret (by decide +kernel) rfl ⟨rfl, h⟩
def eX3_block_0 : List xI := [(.iload_n 1, 1, 0, 0, 0), (.bipush 24, 2, 0, 0, (24))]
theorem kX3_block_0 : xcode (xmb mX3_block) (xmo mX3_block) 0 eX3_block_0 = true := by decide +kernel
def eX3_block_15 : List xI := [(.iload_n 2, 1, 0, 0, 0)]
theorem kX3_block_15 : xcode (xmb mX3_block) (xmo mX3_block) 15 eX3_block_15 = true := by decide +kernel
def eX3_block_44 : List xI := [(.aload_n 0, 1, 0, 0, 0), (.getfield 10, 3, 3, 0, 0), (.getfield 115, 3, 2, 5, 0), (.iload_n 1, 1, 0, 0, 0), (.iaload, 1, 0, 0, 0)]
theorem kX3_block_44 : xcode (xmb mX3_block) (xmo mX3_block) 44 eX3_block_44 = true := by decide +kernel
def eX3_block_54 : List xI := [(.aload_n 0, 1, 0, 0, 0), (.getfield 10, 3, 3, 0, 0), (.getfield 118, 3, 2, 6, 0), (.iload_n 1, 1, 0, 0, 0), (.ishr, 1, 0, 0, 0), (.iconst 1, 1, 0, 0, (1)), (.iand, 1, 0, 0, 0)]
theorem kX3_block_54 : xcode (xmb mX3_block) (xmo mX3_block) 54 eX3_block_54 = true := by decide +kernel
def eX3_block_66 : List xI := [(.aload_n 0, 1, 0, 0, 0), (.getfield 10, 3, 3, 0, 0), (.iload_n 1, 1, 0, 0, 0)]
theorem kX3_block_66 : xcode (xmb mX3_block) (xmo mX3_block) 66 eX3_block_66 = true := by decide +kernel
def eX3_block_75 : List xI := [(.aload_n 0, 1, 0, 0, 0), (.bipush (-2), 2, 0, 0, (-2))]
theorem kX3_block_75 : xcode (xmb mX3_block) (xmo mX3_block) 75 eX3_block_75 = true := by decide +kernel
def eX3_block_9 : List xI := [(.aload_n 0, 1, 0, 0, 0), (.iconst (-1), 1, 0, 0, (-1))]
theorem kX3_block_9 : xcode (xmb mX3_block) (xmo mX3_block) 9 eX3_block_9 = true := by decide +kernel
def wX3_block (M : xM) (p1 : Int32) (p2 : Int32) (Q : Int32 → xM → Prop) : Prop :=
    wX3_isOutside M p1 (24 : Int32) (fun r3 M3 => (((r3 = 0) → ((((p2 = (0 : Int32)) → ((vp_in p1 24) ∧ Q (M3 7 p1.toNatClampNeg) M3)) ∧ ((¬ p2 = (0 : Int32)) → (((p2 = (1 : Int32)) → (Q (((M3 1 6) >>> (p1 &&& 31)) &&& (1 : Int32)) M3)) ∧ ((¬ p2 = (1 : Int32)) → (((p2 = (2 : Int32)) → (wX2_pointersTo M3 1 p1 (fun r71 M71 => Q r71 M71))) ∧ ((¬ p2 = (2 : Int32)) → (wX3_refusal M3 (-2 : Int32) (fun r78 M78 => Q r78 M78)))))))))) ∧ ((¬ r3 = 0) → (wX3_refusal M3 (-1 : Int32) (fun r11 M11 => Q r11 M11)))))
set_option maxHeartbeats 4000000 in
set_option maxRecDepth 100000 in
theorem tX3_block {l : Launch} {E : xE} {M : xM} {p1 : Int32} {p2 : Int32} {Q : Int32 → xM → Prop} (h : wX3_block M p1 p2 Q) : Ct l E mX3_block [.ref 0, .int p1, .int p2] M (xRi Q) := by
  refine Ct_of (by decide +kernel) rfl (Nat.le_of_ble_eq_true rfl) ?_
  unfold wX3_block at h
  show Gx l E mX3_block (xRi Q) 0 M [some (.ref 0), some (.int p1), some (.int p2)] []
  refine Gx_run (es := eX3_block_0) (P := []) (M' := M) (L' := [some (.ref 0), some (.int p1), some (.int p2)]) (st' := [.int (24 : Int32), .int p1]) (pc' := 3) kX3_block_0 rfl trivial rfl ?_
  refine Gx_callS (As := [.int p1, .int (24 : Int32)]) (by decide +kernel) ml_3_84 okX3_isOutside mvX3_isOutside rfl (by decide) (Nat.le_of_ble_eq_true rfl) (tX3_isOutside h) (fun rr M3 qq => ?_)
  obtain ⟨r3, rfl, h⟩ := qq
  show Gx l E mX3_block _ 6 M3 [some (.ref 0), some (.int p1), some (.int p2)] [.int r3]
  refine Gx_if_eq (off := 9) (tgt := 15) (by decide +kernel) (by decide) (fun z => ?_) (fun z => ?_)
  · have h := h.1 z
    refine Gx_run (es := eX3_block_15) (P := []) (M' := M3) (L' := [some (.ref 0), some (.int p1), some (.int p2)]) (st' := [.int p2]) (pc' := 16) kX3_block_15 rfl trivial rfl ?_
    by_cases z0 : p2 = (0 : Int32)
    · have h := h.1 z0
      refine Gx_tabAt (dflt := 59) (lo := 0) (hi := 2) (offs := #[28, 38, 50]) (len := 28) z0 (by decide +kernel) (by decide) (by decide) (off := 28) (tgt := 44) rfl (by decide) ?_
      obtain ⟨g44_0, h⟩ := h
      refine Gx_run (es := eX3_block_44) (P := [xkd 0 = 3, xkd 1 = 2, xkd 7 = 5, vp_in p1 (xln 7)]) (M' := M3) (L' := [some (.ref 0), some (.int p1), some (.int p2)]) (st' := [.int (M3 7 p1.toNatClampNeg)]) (pc' := 53) kX3_block_44 rfl ⟨rfl, rfl, rfl, g44_0, trivial⟩ rfl ?_
      exact Gx_iret (by decide +kernel) rfl rfl ⟨_, rfl, h⟩
    replace h := h.2 z0
    by_cases z1 : p2 = (1 : Int32)
    · have h := h.1 z1
      refine Gx_tabAt (dflt := 59) (lo := 0) (hi := 2) (offs := #[28, 38, 50]) (len := 28) z1 (by decide +kernel) (by decide) (by decide) (off := 38) (tgt := 54) rfl (by decide) ?_
      refine Gx_run (es := eX3_block_54) (P := [xkd 0 = 3, xkd 1 = 2]) (M' := M3) (L' := [some (.ref 0), some (.int p1), some (.int p2)]) (st' := [.int (((M3 1 6) >>> (p1 &&& 31)) &&& (1 : Int32))]) (pc' := 65) kX3_block_54 rfl ⟨rfl, rfl, trivial⟩ rfl ?_
      exact Gx_iret (by decide +kernel) rfl rfl ⟨_, rfl, h⟩
    replace h := h.2 z1
    by_cases z2 : p2 = (2 : Int32)
    · have h := h.1 z2
      refine Gx_tabAt (dflt := 59) (lo := 0) (hi := 2) (offs := #[28, 38, 50]) (len := 28) z2 (by decide +kernel) (by decide) (by decide) (off := 50) (tgt := 66) rfl (by decide) ?_
      refine Gx_run (es := eX3_block_66) (P := [xkd 0 = 3]) (M' := M3) (L' := [some (.ref 0), some (.int p1), some (.int p2)]) (st' := [.int p1, .ref 1]) (pc' := 71) kX3_block_66 rfl ⟨rfl, trivial⟩ rfl ?_
      refine Gx_callV (As := [.int p1]) (by decide +kernel) ml_3_121 okX2_pointersTo mvX2_pointersTo rfl (by decide) (Nat.le_of_ble_eq_true rfl) rfl rfl rfl (tX2_pointersTo xVol_at1 h) (fun rr M71 qq => ?_)
      obtain ⟨r71, rfl, h⟩ := qq
      show Gx l E mX3_block _ 74 M71 [some (.ref 0), some (.int p1), some (.int p2)] [.int r71]
      exact Gx_iret (by decide +kernel) rfl rfl ⟨_, rfl, h⟩
    replace h := h.2 z2
    suffices hk : Gx l E mX3_block _ 75 M3 [some (.ref 0), some (.int p1), some (.int p2)] [] by
      refine Gx_tableOut (dflt := 59) (lo := 0) (hi := 2) (offs := #[28, 38, 50]) (len := 28) (tgt := 75) (by decide +kernel) ?_ (by decide) hk
      have n0 := lv_neT (a := 0) z0 (by decide)
      have n1 := lv_neT (a := 1) z1 (by decide)
      have n2 := lv_neT (a := 2) z2 (by decide)
      omega
    refine Gx_run (es := eX3_block_75) (P := []) (M' := M3) (L' := [some (.ref 0), some (.int p1), some (.int p2)]) (st' := [.int (-2 : Int32), .ref 0]) (pc' := 78) kX3_block_75 rfl trivial rfl ?_
    refine Gx_callV (As := [.int (-2 : Int32)]) (by decide +kernel) ml_3_63 okX3_refusal mvX3_refusal rfl (by decide) (Nat.le_of_ble_eq_true rfl) rfl rfl rfl (tX3_refusal h) (fun rr M78 qq => ?_)
    obtain ⟨r78, rfl, h⟩ := qq
    show Gx l E mX3_block _ 81 M78 [some (.ref 0), some (.int p1), some (.int p2)] [.int r78]
    exact Gx_iret (by decide +kernel) rfl rfl ⟨_, rfl, h⟩
  · have h := h.2 z
    refine Gx_run (es := eX3_block_9) (P := []) (M' := M3) (L' := [some (.ref 0), some (.int p1), some (.int p2)]) (st' := [.int (-1 : Int32), .ref 0]) (pc' := 11) kX3_block_9 rfl trivial rfl ?_
    refine Gx_callV (As := [.int (-1 : Int32)]) (by decide +kernel) ml_3_63 okX3_refusal mvX3_refusal rfl (by decide) (Nat.le_of_ble_eq_true rfl) rfl rfl rfl (tX3_refusal h) (fun rr M11 qq => ?_)
    obtain ⟨r11, rfl, h⟩ := qq
    show Gx l E mX3_block _ 14 M11 [some (.ref 0), some (.int p1), some (.int p2)] [.int r11]
    exact Gx_iret (by decide +kernel) rfl rfl ⟨_, rfl, h⟩
def eX3_changeByLot_0 : List xI := [(.aload_n 0, 1, 0, 0, 0), (.iconst 3, 1, 0, 0, (3))]
theorem kX3_changeByLot_0 : xcode (xmb mX3_changeByLot) (xmo mX3_changeByLot) 0 eX3_changeByLot_0 = true := by decide +kernel
def eX3_changeByLot_5 : List xI := [(.istore_n 1, 1, 0, 0, 0), (.iload_n 1, 1, 0, 0, 0)]
theorem kX3_changeByLot_5 : xcode (xmb mX3_changeByLot) (xmo mX3_changeByLot) 5 eX3_changeByLot_5 = true := by decide +kernel
def eX3_changeByLot_41 : List xI := [(.iload_n 1, 1, 0, 0, 0), (.iconst 1, 1, 0, 0, (1))]
theorem kX3_changeByLot_41 : xcode (xmb mX3_changeByLot) (xmo mX3_changeByLot) 41 eX3_changeByLot_41 = true := by decide +kernel
def eX3_changeByLot_88 : List xI := [(.aload_n 0, 1, 0, 0, 0), (.bipush 10, 2, 0, 0, (10))]
theorem kX3_changeByLot_88 : xcode (xmb mX3_changeByLot) (xmo mX3_changeByLot) 88 eX3_changeByLot_88 = true := by decide +kernel
def eX3_changeByLot_94 : List xI := [(.istore_n 2, 1, 0, 0, 0), (.aload_n 0, 1, 0, 0, 0), (.getfield 16, 3, 3, 1, 0), (.getfield 88, 3, 2, 0, 0), (.iload_n 2, 1, 0, 0, 0), (.aload_n 0, 1, 0, 0, 0), (.bipush 6, 2, 0, 0, (6))]
theorem kX3_changeByLot_94 : xcode (xmb mX3_changeByLot) (xmo mX3_changeByLot) 94 eX3_changeByLot_94 = true := by decide +kernel
def eX3_changeByLot_109 : List xI := [(.iastore, 1, 0, 0, 0)]
theorem kX3_changeByLot_109 : xcode (xmb mX3_changeByLot) (xmo mX3_changeByLot) 109 eX3_changeByLot_109 = true := by decide +kernel
def eX3_changeByLot_46 : List xI := [(.aload_n 0, 1, 0, 0, 0), (.bipush 6, 2, 0, 0, (6))]
theorem kX3_changeByLot_46 : xcode (xmb mX3_changeByLot) (xmo mX3_changeByLot) 46 eX3_changeByLot_46 = true := by decide +kernel
def eX3_changeByLot_52 : List xI := [(.istore_n 2, 1, 0, 0, 0), (.aload_n 0, 1, 0, 0, 0), (.bipush 10, 2, 0, 0, (10))]
theorem kX3_changeByLot_52 : xcode (xmb mX3_changeByLot) (xmo mX3_changeByLot) 52 eX3_changeByLot_52 = true := by decide +kernel
def eX3_changeByLot_59 : List xI := [(.istore_n 3, 1, 0, 0, 0), (.aload_n 0, 1, 0, 0, 0), (.bipush 26, 2, 0, 0, (26))]
theorem kX3_changeByLot_59 : xcode (xmb mX3_changeByLot) (xmo mX3_changeByLot) 59 eX3_changeByLot_59 = true := by decide +kernel
def eX3_changeByLot_66 : List xI := [(.istore 4, 2, 0, 0, 0), (.aload_n 0, 1, 0, 0, 0), (.getfield 16, 3, 3, 1, 0), (.iload_n 3, 1, 0, 0, 0), (.iload_n 2, 1, 0, 0, 0), (.iload 4, 2, 0, 0, 0), (.aload_n 0, 1, 0, 0, 0), (.bipush 10, 2, 0, 0, (10))]
theorem kX3_changeByLot_66 : xcode (xmb mX3_changeByLot) (xmo mX3_changeByLot) 66 eX3_changeByLot_66 = true := by decide +kernel
def eX3_changeByLot_10 : List xI := [(.aload_n 0, 1, 0, 0, 0), (.iconst 3, 1, 0, 0, (3))]
theorem kX3_changeByLot_10 : xcode (xmb mX3_changeByLot) (xmo mX3_changeByLot) 10 eX3_changeByLot_10 = true := by decide +kernel
def eX3_changeByLot_15 : List xI := [(.istore_n 2, 1, 0, 0, 0), (.aload_n 0, 1, 0, 0, 0), (.bipush 10, 2, 0, 0, (10))]
theorem kX3_changeByLot_15 : xcode (xmb mX3_changeByLot) (xmo mX3_changeByLot) 15 eX3_changeByLot_15 = true := by decide +kernel
def eX3_changeByLot_22 : List xI := [(.istore_n 3, 1, 0, 0, 0), (.aload_n 0, 1, 0, 0, 0), (.getfield 16, 3, 3, 1, 0), (.iload_n 3, 1, 0, 0, 0), (.iload_n 2, 1, 0, 0, 0), (.aload_n 0, 1, 0, 0, 0), (.bipush 26, 2, 0, 0, (26))]
theorem kX3_changeByLot_22 : xcode (xmb mX3_changeByLot) (xmo mX3_changeByLot) 22 eX3_changeByLot_22 = true := by decide +kernel
def wX3_changeByLot_110 (Q : xM → Prop) (M : xM) : Prop :=
    Q M
set_option maxHeartbeats 4000000 in
set_option maxRecDepth 100000 in
theorem tX3_changeByLot_110 {l : Launch} {E : xE} {Q : xM → Prop} (M : xM) (h : wX3_changeByLot_110  Q M ) : Gx l E mX3_changeByLot (xRv Q) 110 M [none, none, none, none, none] [] := by
  unfold wX3_changeByLot_110 at h
  exact Gx_vret (by decide +kernel) rfl ⟨rfl, h⟩
def wX3_changeByLot (M : xM) (Q : xM → Prop) : Prop :=
    wX3_draw M (3 : Int32) (fun r2 M2 => (((¬ r2 = 0) → ((((¬ r2 = (1 : Int32)) → (wX3_draw M2 (10 : Int32) (fun r91 M91 => wX3_draw M91 (6 : Int32) (fun r106 M106 => (vp_in r91 10) ∧ wX3_changeByLot_110  Q (xup M106 9 r91.toNatClampNeg r106))))) ∧ ((r2 = (1 : Int32)) → (wX3_draw M2 (6 : Int32) (fun r49 M49 => wX3_draw M49 (10 : Int32) (fun r56 M56 => wX3_draw M56 (26 : Int32) (fun r63 M63 => wX3_draw M63 (10 : Int32) (fun r79 M79 => wX2_enter M79 8 r56 r49 r63 r79 (fun M82 => wX3_changeByLot_110  Q M82)))))))))) ∧ ((r2 = 0) → (wX3_draw M2 (3 : Int32) (fun r12 M12 => wX3_draw M12 (10 : Int32) (fun r19 M19 => wX3_draw M19 (26 : Int32) (fun r32 M32 => wX2_pointAt M32 8 r19 r12 r32 (fun M35 => wX3_changeByLot_110  Q M35))))))))
set_option maxHeartbeats 4000000 in
set_option maxRecDepth 100000 in
theorem tX3_changeByLot {l : Launch} {E : xE} {M : xM} {Q : xM → Prop} (h : wX3_changeByLot M  Q) : Ct l E mX3_changeByLot [.ref 0] M (xRv Q) := by
  refine Ct_of (by decide +kernel) rfl (Nat.le_of_ble_eq_true rfl) ?_
  unfold wX3_changeByLot at h
  show Gx l E mX3_changeByLot (xRv Q) 0 M [some (.ref 0), none, none, none, none] []
  refine Gx_run (es := eX3_changeByLot_0) (P := []) (M' := M) (L' := [some (.ref 0), none, none, none, none]) (st' := [.int (3 : Int32), .ref 0]) (pc' := 2) kX3_changeByLot_0 rfl trivial rfl ?_
  refine Gx_callV (As := [.int (3 : Int32)]) (by decide +kernel) ml_3_242 okX3_draw mvX3_draw rfl (by decide) (Nat.le_of_ble_eq_true rfl) rfl rfl rfl (tX3_draw h) (fun rr M2 qq => ?_)
  obtain ⟨r2, rfl, h⟩ := qq
  show Gx l E mX3_changeByLot _ 5 M2 [some (.ref 0), none, none, none, none] [.int r2]
  refine Gx_run (es := eX3_changeByLot_5) (P := []) (M' := M2) (L' := [some (.ref 0), some (.int r2), none, none, none]) (st' := [.int r2]) (pc' := 7) kX3_changeByLot_5 rfl trivial rfl ?_
  refine Gx_if_ne (off := 34) (tgt := 41) (by decide +kernel) (by decide) (fun z => ?_) (fun z => ?_)
  · have h := h.1 z
    refine Gx_run (es := eX3_changeByLot_41) (P := []) (M' := M2) (L' := [some (.ref 0), some (.int r2), none, none, none]) (st' := [.int (1 : Int32), .int r2]) (pc' := 43) kX3_changeByLot_41 rfl trivial rfl ?_
    refine Gx_icmp_ne (off := 45) (tgt := 88) (by decide +kernel) (by decide) (fun z => ?_) (fun z => ?_)
    · have h := h.1 z
      refine Gx_run (es := eX3_changeByLot_88) (P := []) (M' := M2) (L' := [some (.ref 0), some (.int r2), none, none, none]) (st' := [.int (10 : Int32), .ref 0]) (pc' := 91) kX3_changeByLot_88 rfl trivial rfl ?_
      refine Gx_callV (As := [.int (10 : Int32)]) (by decide +kernel) ml_3_242 okX3_draw mvX3_draw rfl (by decide) (Nat.le_of_ble_eq_true rfl) rfl rfl rfl (tX3_draw h) (fun rr M91 qq => ?_)
      obtain ⟨r91, rfl, h⟩ := qq
      show Gx l E mX3_changeByLot _ 94 M91 [some (.ref 0), some (.int r2), none, none, none] [.int r91]
      refine Gx_run (es := eX3_changeByLot_94) (P := [xkd 0 = 3, xkd 8 = 2]) (M' := M91) (L' := [some (.ref 0), some (.int r2), some (.int r91), none, none]) (st' := [.int (6 : Int32), .ref 0, .int r91, .ref 9]) (pc' := 106) kX3_changeByLot_94 rfl ⟨rfl, rfl, trivial⟩ rfl ?_
      refine Gx_callV (As := [.int (6 : Int32)]) (by decide +kernel) ml_3_242 okX3_draw mvX3_draw rfl (by decide) (Nat.le_of_ble_eq_true rfl) rfl rfl rfl (tX3_draw h) (fun rr M106 qq => ?_)
      obtain ⟨r106, rfl, h⟩ := qq
      show Gx l E mX3_changeByLot _ 109 M106 [some (.ref 0), some (.int r2), some (.int r91), none, none] [.int r106, .int r91, .ref 9]
      obtain ⟨g109_0, h⟩ := h
      refine Gx_run (es := eX3_changeByLot_109) (P := [xkd 9 = 5, vp_in r91 (xln 9)]) (M' := (xup M106 9 r91.toNatClampNeg r106)) (L' := [some (.ref 0), some (.int r2), some (.int r91), none, none]) (st' := []) (pc' := 110) kX3_changeByLot_109 rfl ⟨rfl, g109_0, trivial⟩ rfl ?_
      refine Gx_mask [false, false, false, false, false] (L' := [none, none, none, none, none]) rfl ?_
      exact tX3_changeByLot_110  (xup M106 9 r91.toNatClampNeg r106) h
    · have h := h.2 z
      refine Gx_run (es := eX3_changeByLot_46) (P := []) (M' := M2) (L' := [some (.ref 0), some (.int r2), none, none, none]) (st' := [.int (6 : Int32), .ref 0]) (pc' := 49) kX3_changeByLot_46 rfl trivial rfl ?_
      refine Gx_callV (As := [.int (6 : Int32)]) (by decide +kernel) ml_3_242 okX3_draw mvX3_draw rfl (by decide) (Nat.le_of_ble_eq_true rfl) rfl rfl rfl (tX3_draw h) (fun rr M49 qq => ?_)
      obtain ⟨r49, rfl, h⟩ := qq
      show Gx l E mX3_changeByLot _ 52 M49 [some (.ref 0), some (.int r2), none, none, none] [.int r49]
      refine Gx_run (es := eX3_changeByLot_52) (P := []) (M' := M49) (L' := [some (.ref 0), some (.int r2), some (.int r49), none, none]) (st' := [.int (10 : Int32), .ref 0]) (pc' := 56) kX3_changeByLot_52 rfl trivial rfl ?_
      refine Gx_callV (As := [.int (10 : Int32)]) (by decide +kernel) ml_3_242 okX3_draw mvX3_draw rfl (by decide) (Nat.le_of_ble_eq_true rfl) rfl rfl rfl (tX3_draw h) (fun rr M56 qq => ?_)
      obtain ⟨r56, rfl, h⟩ := qq
      show Gx l E mX3_changeByLot _ 59 M56 [some (.ref 0), some (.int r2), some (.int r49), none, none] [.int r56]
      refine Gx_run (es := eX3_changeByLot_59) (P := []) (M' := M56) (L' := [some (.ref 0), some (.int r2), some (.int r49), some (.int r56), none]) (st' := [.int (26 : Int32), .ref 0]) (pc' := 63) kX3_changeByLot_59 rfl trivial rfl ?_
      refine Gx_callV (As := [.int (26 : Int32)]) (by decide +kernel) ml_3_242 okX3_draw mvX3_draw rfl (by decide) (Nat.le_of_ble_eq_true rfl) rfl rfl rfl (tX3_draw h) (fun rr M63 qq => ?_)
      obtain ⟨r63, rfl, h⟩ := qq
      show Gx l E mX3_changeByLot _ 66 M63 [some (.ref 0), some (.int r2), some (.int r49), some (.int r56), none] [.int r63]
      refine Gx_run (es := eX3_changeByLot_66) (P := [xkd 0 = 3]) (M' := M63) (L' := [some (.ref 0), some (.int r2), some (.int r49), some (.int r56), some (.int r63)]) (st' := [.int (10 : Int32), .ref 0, .int r63, .int r49, .int r56, .ref 8]) (pc' := 79) kX3_changeByLot_66 rfl ⟨rfl, trivial⟩ rfl ?_
      refine Gx_callV (As := [.int (10 : Int32)]) (by decide +kernel) ml_3_242 okX3_draw mvX3_draw rfl (by decide) (Nat.le_of_ble_eq_true rfl) rfl rfl rfl (tX3_draw h) (fun rr M79 qq => ?_)
      obtain ⟨r79, rfl, h⟩ := qq
      show Gx l E mX3_changeByLot _ 82 M79 [some (.ref 0), some (.int r2), some (.int r49), some (.int r56), some (.int r63)] [.int r79, .int r63, .int r49, .int r56, .ref 8]
      refine Gx_callV (As := [.int r56, .int r49, .int r63, .int r79]) (by decide +kernel) ml_3_128 okX2_enter mvX2_enter rfl (by decide) (Nat.le_of_ble_eq_true rfl) rfl rfl rfl (tX2_enter xVol_at8 h) (fun rr M82 qq => ?_)
      obtain ⟨rfl, h⟩ := qq
      show Gx l E mX3_changeByLot _ 85 M82 [some (.ref 0), some (.int r2), some (.int r49), some (.int r56), some (.int r63)] []
      refine Gx_goto (off := 25) (tgt := 110) (by decide +kernel) (by decide) ?_
      refine Gx_mask [false, false, false, false, false] (L' := [none, none, none, none, none]) rfl ?_
      exact tX3_changeByLot_110  M82 h
  · have h := h.2 z
    refine Gx_run (es := eX3_changeByLot_10) (P := []) (M' := M2) (L' := [some (.ref 0), some (.int r2), none, none, none]) (st' := [.int (3 : Int32), .ref 0]) (pc' := 12) kX3_changeByLot_10 rfl trivial rfl ?_
    refine Gx_callV (As := [.int (3 : Int32)]) (by decide +kernel) ml_3_242 okX3_draw mvX3_draw rfl (by decide) (Nat.le_of_ble_eq_true rfl) rfl rfl rfl (tX3_draw h) (fun rr M12 qq => ?_)
    obtain ⟨r12, rfl, h⟩ := qq
    show Gx l E mX3_changeByLot _ 15 M12 [some (.ref 0), some (.int r2), none, none, none] [.int r12]
    refine Gx_run (es := eX3_changeByLot_15) (P := []) (M' := M12) (L' := [some (.ref 0), some (.int r2), some (.int r12), none, none]) (st' := [.int (10 : Int32), .ref 0]) (pc' := 19) kX3_changeByLot_15 rfl trivial rfl ?_
    refine Gx_callV (As := [.int (10 : Int32)]) (by decide +kernel) ml_3_242 okX3_draw mvX3_draw rfl (by decide) (Nat.le_of_ble_eq_true rfl) rfl rfl rfl (tX3_draw h) (fun rr M19 qq => ?_)
    obtain ⟨r19, rfl, h⟩ := qq
    show Gx l E mX3_changeByLot _ 22 M19 [some (.ref 0), some (.int r2), some (.int r12), none, none] [.int r19]
    refine Gx_run (es := eX3_changeByLot_22) (P := [xkd 0 = 3]) (M' := M19) (L' := [some (.ref 0), some (.int r2), some (.int r12), some (.int r19), none]) (st' := [.int (26 : Int32), .ref 0, .int r12, .int r19, .ref 8]) (pc' := 32) kX3_changeByLot_22 rfl ⟨rfl, trivial⟩ rfl ?_
    refine Gx_callV (As := [.int (26 : Int32)]) (by decide +kernel) ml_3_242 okX3_draw mvX3_draw rfl (by decide) (Nat.le_of_ble_eq_true rfl) rfl rfl rfl (tX3_draw h) (fun rr M32 qq => ?_)
    obtain ⟨r32, rfl, h⟩ := qq
    show Gx l E mX3_changeByLot _ 35 M32 [some (.ref 0), some (.int r2), some (.int r12), some (.int r19), none] [.int r32, .int r12, .int r19, .ref 8]
    refine Gx_callV (As := [.int r19, .int r12, .int r32]) (by decide +kernel) ml_3_124 okX2_pointAt mvX2_pointAt rfl (by decide) (Nat.le_of_ble_eq_true rfl) rfl rfl rfl (tX2_pointAt xVol_at8 h) (fun rr M35 qq => ?_)
    obtain ⟨rfl, h⟩ := qq
    show Gx l E mX3_changeByLot _ 38 M35 [some (.ref 0), some (.int r2), some (.int r12), some (.int r19), none] []
    refine Gx_goto (off := 72) (tgt := 110) (by decide +kernel) (by decide) ?_
    refine Gx_mask [false, false, false, false, false] (L' := [none, none, none, none, none]) rfl ?_
    exact tX3_changeByLot_110  M35 h
def eX3_empties_0 : List xI := [(.iload_n 1, 1, 0, 0, 0), (.bipush 10, 2, 0, 0, (10))]
theorem kX3_empties_0 : xcode (xmb mX3_empties) (xmo mX3_empties) 0 eX3_empties_0 = true := by decide +kernel
def eX3_empties_18 : List xI := [(.aload_n 0, 1, 0, 0, 0), (.iconst (-1), 1, 0, 0, (-1))]
theorem kX3_empties_18 : xcode (xmb mX3_empties) (xmo mX3_empties) 18 eX3_empties_18 = true := by decide +kernel
def eX3_empties_9 : List xI := [(.iload_n 2, 1, 0, 0, 0), (.bipush 6, 2, 0, 0, (6))]
theorem kX3_empties_9 : xcode (xmb mX3_empties) (xmo mX3_empties) 9 eX3_empties_9 = true := by decide +kernel
def eX3_empties_24 : List xI := [(.bipush 6, 2, 0, 0, (6)), (.iload_n 1, 1, 0, 0, 0), (.imul, 1, 0, 0, 0), (.iload_n 2, 1, 0, 0, 0), (.iadd, 1, 0, 0, 0), (.istore_n 3, 1, 0, 0, 0), (.aload_n 0, 1, 0, 0, 0), (.getfield 10, 3, 3, 0, 0), (.getfield 112, 3, 2, 4, 0), (.iload_n 3, 1, 0, 0, 0), (.iaload, 1, 0, 0, 0), (.bipush (-9), 2, 0, 0, (-9))]
theorem kX3_empties_24 : xcode (xmb mX3_empties) (xmo mX3_empties) 24 eX3_empties_24 = true := by decide +kernel
def eX3_empties_49 : List xI := [(.iconst 1, 1, 0, 0, (1))]
theorem kX3_empties_49 : xcode (xmb mX3_empties) (xmo mX3_empties) 49 eX3_empties_49 = true := by decide +kernel
def eX3_empties_50 : List xI := [(.istore 4, 2, 0, 0, 0), (.aload_n 0, 1, 0, 0, 0), (.getfield 10, 3, 3, 0, 0), (.getfield 112, 3, 2, 4, 0), (.iload_n 3, 1, 0, 0, 0), (.bipush (-9), 2, 0, 0, (-9)), (.iastore, 1, 0, 0, 0), (.iload 4, 2, 0, 0, 0)]
theorem kX3_empties_50 : xcode (xmb mX3_empties) (xmo mX3_empties) 50 eX3_empties_50 = true := by decide +kernel
def eX3_empties_45 : List xI := [(.iconst 0, 1, 0, 0, (0))]
theorem kX3_empties_45 : xcode (xmb mX3_empties) (xmo mX3_empties) 45 eX3_empties_45 = true := by decide +kernel
def wX3_empties_18 (p1 : Int32) (p2 : Int32) (Q : Int32 → xM → Prop) (M : xM) : Prop :=
    wX3_refusal M (-1 : Int32) (fun r20 M20 => Q r20 M20)
set_option maxHeartbeats 4000000 in
set_option maxRecDepth 100000 in
theorem tX3_empties_18 {l : Launch} {E : xE} {p1 : Int32} {p2 : Int32} {Q : Int32 → xM → Prop} (M : xM) (h : wX3_empties_18 p1 p2 Q M ) : Gx l E mX3_empties (xRi Q) 18 M [some (.ref 0), none, none, none, none] [] := by
  unfold wX3_empties_18 at h
  refine Gx_run (es := eX3_empties_18) (P := []) (M' := M) (L' := [some (.ref 0), none, none, none, none]) (st' := [.int (-1 : Int32), .ref 0]) (pc' := 20) kX3_empties_18 rfl trivial rfl ?_
  refine Gx_callV (As := [.int (-1 : Int32)]) (by decide +kernel) ml_3_63 okX3_refusal mvX3_refusal rfl (by decide) (Nat.le_of_ble_eq_true rfl) rfl rfl rfl (tX3_refusal h) (fun rr M20 qq => ?_)
  obtain ⟨r20, rfl, h⟩ := qq
  show Gx l E mX3_empties _ 23 M20 [some (.ref 0), none, none, none, none] [.int r20]
  exact Gx_iret (by decide +kernel) rfl rfl ⟨_, rfl, h⟩
def wX3_empties_50 (p1 : Int32) (p2 : Int32) (Q : Int32 → xM → Prop) (M : xM) (s0 : Int32) : Prop :=
    (vp_in (((6 : Int32) * p1) + p2) 60) ∧ Q s0 (xup M 6 (((6 : Int32) * p1) + p2).toNatClampNeg (-9 : Int32))
set_option maxHeartbeats 4000000 in
set_option maxRecDepth 100000 in
theorem tX3_empties_50 {l : Launch} {E : xE} {p1 : Int32} {p2 : Int32} {Q : Int32 → xM → Prop} (M : xM) (s0 : Int32) (h : wX3_empties_50 p1 p2 Q M s0) : Gx l E mX3_empties (xRi Q) 50 M [some (.ref 0), none, none, some (.int (((6 : Int32) * p1) + p2)), none] [.int s0] := by
  unfold wX3_empties_50 at h
  obtain ⟨g50_0, h⟩ := h
  refine Gx_run (es := eX3_empties_50) (P := [xkd 0 = 3, xkd 1 = 2, xkd 6 = 5, vp_in (((6 : Int32) * p1) + p2) (xln 6)]) (M' := (xup M 6 (((6 : Int32) * p1) + p2).toNatClampNeg (-9 : Int32))) (L' := [some (.ref 0), none, none, some (.int (((6 : Int32) * p1) + p2)), some (.int s0)]) (st' := [.int s0]) (pc' := 65) kX3_empties_50 rfl ⟨rfl, rfl, rfl, g50_0, trivial⟩ rfl ?_
  exact Gx_iret (by decide +kernel) rfl rfl ⟨_, rfl, h⟩
def wX3_empties (M : xM) (p1 : Int32) (p2 : Int32) (Q : Int32 → xM → Prop) : Prop :=
    wX3_isOutside M p1 (10 : Int32) (fun r3 M3 => (((¬ r3 = 0) → (wX3_empties_18 p1 p2 Q M3)) ∧ ((r3 = 0) → (wX3_isOutside M3 p2 (6 : Int32) (fun r12 M12 => (((r12 = 0) → ((vp_in (((6 : Int32) * p1) + p2) 60) ∧ (((¬ (M12 6 (((6 : Int32) * p1) + p2).toNatClampNeg) = (-9 : Int32)) → (wX3_empties_50 p1 p2 Q M12 (1 : Int32))) ∧ (((M12 6 (((6 : Int32) * p1) + p2).toNatClampNeg) = (-9 : Int32)) → (wX3_empties_50 p1 p2 Q M12 (0 : Int32)))))) ∧ ((¬ r12 = 0) → (wX3_empties_18 p1 p2 Q M12))))))))
set_option maxHeartbeats 4000000 in
set_option maxRecDepth 100000 in
theorem tX3_empties {l : Launch} {E : xE} {M : xM} {p1 : Int32} {p2 : Int32} {Q : Int32 → xM → Prop} (h : wX3_empties M p1 p2 Q) : Ct l E mX3_empties [.ref 0, .int p1, .int p2] M (xRi Q) := by
  refine Ct_of (by decide +kernel) rfl (Nat.le_of_ble_eq_true rfl) ?_
  unfold wX3_empties at h
  show Gx l E mX3_empties (xRi Q) 0 M [some (.ref 0), some (.int p1), some (.int p2), none, none] []
  refine Gx_run (es := eX3_empties_0) (P := []) (M' := M) (L' := [some (.ref 0), some (.int p1), some (.int p2), none, none]) (st' := [.int (10 : Int32), .int p1]) (pc' := 3) kX3_empties_0 rfl trivial rfl ?_
  refine Gx_callS (As := [.int p1, .int (10 : Int32)]) (by decide +kernel) ml_3_84 okX3_isOutside mvX3_isOutside rfl (by decide) (Nat.le_of_ble_eq_true rfl) (tX3_isOutside h) (fun rr M3 qq => ?_)
  obtain ⟨r3, rfl, h⟩ := qq
  show Gx l E mX3_empties _ 6 M3 [some (.ref 0), some (.int p1), some (.int p2), none, none] [.int r3]
  refine Gx_if_ne (off := 12) (tgt := 18) (by decide +kernel) (by decide) (fun z => ?_) (fun z => ?_)
  · have h := h.1 z
    refine Gx_mask [true, false, false, false, false] (L' := [some (.ref 0), none, none, none, none]) rfl ?_
    exact tX3_empties_18  M3 h
  · have h := h.2 z
    refine Gx_run (es := eX3_empties_9) (P := []) (M' := M3) (L' := [some (.ref 0), some (.int p1), some (.int p2), none, none]) (st' := [.int (6 : Int32), .int p2]) (pc' := 12) kX3_empties_9 rfl trivial rfl ?_
    refine Gx_callS (As := [.int p2, .int (6 : Int32)]) (by decide +kernel) ml_3_84 okX3_isOutside mvX3_isOutside rfl (by decide) (Nat.le_of_ble_eq_true rfl) (tX3_isOutside h) (fun rr M12 qq => ?_)
    obtain ⟨r12, rfl, h⟩ := qq
    show Gx l E mX3_empties _ 15 M12 [some (.ref 0), some (.int p1), some (.int p2), none, none] [.int r12]
    refine Gx_if_eq (off := 9) (tgt := 24) (by decide +kernel) (by decide) (fun z => ?_) (fun z => ?_)
    · have h := h.1 z
      obtain ⟨g24_0, h⟩ := h
      refine Gx_run (es := eX3_empties_24) (P := [xkd 0 = 3, xkd 1 = 2, xkd 6 = 5, vp_in (((6 : Int32) * p1) + p2) (xln 6)]) (M' := M12) (L' := [some (.ref 0), some (.int p1), some (.int p2), some (.int (((6 : Int32) * p1) + p2)), none]) (st' := [.int (-9 : Int32), .int (M12 6 (((6 : Int32) * p1) + p2).toNatClampNeg)]) (pc' := 42) kX3_empties_24 rfl ⟨rfl, rfl, rfl, g24_0, trivial⟩ rfl ?_
      refine Gx_icmp_ne (off := 7) (tgt := 49) (by decide +kernel) (by decide) (fun z => ?_) (fun z => ?_)
      · have h := h.1 z
        refine Gx_run (es := eX3_empties_49) (P := []) (M' := M12) (L' := [some (.ref 0), some (.int p1), some (.int p2), some (.int (((6 : Int32) * p1) + p2)), none]) (st' := [.int (1 : Int32)]) (pc' := 50) kX3_empties_49 rfl trivial rfl ?_
        refine Gx_mask [true, false, false, true, false] (L' := [some (.ref 0), none, none, some (.int (((6 : Int32) * p1) + p2)), none]) rfl ?_
        exact tX3_empties_50  M12 (1 : Int32) h
      · have h := h.2 z
        refine Gx_run (es := eX3_empties_45) (P := []) (M' := M12) (L' := [some (.ref 0), some (.int p1), some (.int p2), some (.int (((6 : Int32) * p1) + p2)), none]) (st' := [.int (0 : Int32)]) (pc' := 46) kX3_empties_45 rfl trivial rfl ?_
        refine Gx_goto (off := 4) (tgt := 50) (by decide +kernel) (by decide) ?_
        refine Gx_mask [true, false, false, true, false] (L' := [some (.ref 0), none, none, some (.int (((6 : Int32) * p1) + p2)), none]) rfl ?_
        exact tX3_empties_50  M12 (0 : Int32) h
    · have h := h.2 z
      refine Gx_mask [true, false, false, false, false] (L' := [some (.ref 0), none, none, none, none]) rfl ?_
      exact tX3_empties_18  M12 h
def eX3_enters_0 : List xI := [(.iload_n 1, 1, 0, 0, 0), (.bipush 10, 2, 0, 0, (10))]
theorem kX3_enters_0 : xcode (xmb mX3_enters) (xmo mX3_enters) 0 eX3_enters_0 = true := by decide +kernel
def eX3_enters_28 : List xI := [(.aload_n 0, 1, 0, 0, 0), (.iconst (-1), 1, 0, 0, (-1))]
theorem kX3_enters_28 : xcode (xmb mX3_enters) (xmo mX3_enters) 28 eX3_enters_28 = true := by decide +kernel
def eX3_enters_9 : List xI := [(.iload_n 2, 1, 0, 0, 0), (.bipush 6, 2, 0, 0, (6))]
theorem kX3_enters_9 : xcode (xmb mX3_enters) (xmo mX3_enters) 9 eX3_enters_9 = true := by decide +kernel
def eX3_enters_18 : List xI := [(.iload 4, 2, 0, 0, 0), (.bipush 10, 2, 0, 0, (10))]
theorem kX3_enters_18 : xcode (xmb mX3_enters) (xmo mX3_enters) 18 eX3_enters_18 = true := by decide +kernel
def eX3_enters_34 : List xI := [(.iload_n 3, 1, 0, 0, 0), (.bipush 26, 2, 0, 0, (26))]
theorem kX3_enters_34 : xcode (xmb mX3_enters) (xmo mX3_enters) 34 eX3_enters_34 = true := by decide +kernel
def eX3_enters_50 : List xI := [(.aload_n 0, 1, 0, 0, 0), (.getfield 10, 3, 3, 0, 0), (.iload_n 1, 1, 0, 0, 0), (.iload_n 2, 1, 0, 0, 0), (.iload_n 3, 1, 0, 0, 0), (.iload 4, 2, 0, 0, 0)]
theorem kX3_enters_50 : xcode (xmb mX3_enters) (xmo mX3_enters) 50 eX3_enters_50 = true := by decide +kernel
def eX3_enters_62 : List xI := [(.iconst 1, 1, 0, 0, (1))]
theorem kX3_enters_62 : xcode (xmb mX3_enters) (xmo mX3_enters) 62 eX3_enters_62 = true := by decide +kernel
def eX3_enters_43 : List xI := [(.aload_n 0, 1, 0, 0, 0), (.bipush (-2), 2, 0, 0, (-2))]
theorem kX3_enters_43 : xcode (xmb mX3_enters) (xmo mX3_enters) 43 eX3_enters_43 = true := by decide +kernel
def wX3_enters_28 (p1 : Int32) (p2 : Int32) (p3 : Int32) (p4 : Int32) (Q : Int32 → xM → Prop) (M : xM) : Prop :=
    wX3_refusal M (-1 : Int32) (fun r30 M30 => Q r30 M30)
set_option maxHeartbeats 4000000 in
set_option maxRecDepth 100000 in
theorem tX3_enters_28 {l : Launch} {E : xE} {p1 : Int32} {p2 : Int32} {p3 : Int32} {p4 : Int32} {Q : Int32 → xM → Prop} (M : xM) (h : wX3_enters_28 p1 p2 p3 p4 Q M ) : Gx l E mX3_enters (xRi Q) 28 M [some (.ref 0), none, none, none, none] [] := by
  unfold wX3_enters_28 at h
  refine Gx_run (es := eX3_enters_28) (P := []) (M' := M) (L' := [some (.ref 0), none, none, none, none]) (st' := [.int (-1 : Int32), .ref 0]) (pc' := 30) kX3_enters_28 rfl trivial rfl ?_
  refine Gx_callV (As := [.int (-1 : Int32)]) (by decide +kernel) ml_3_63 okX3_refusal mvX3_refusal rfl (by decide) (Nat.le_of_ble_eq_true rfl) rfl rfl rfl (tX3_refusal h) (fun rr M30 qq => ?_)
  obtain ⟨r30, rfl, h⟩ := qq
  show Gx l E mX3_enters _ 33 M30 [some (.ref 0), none, none, none, none] [.int r30]
  exact Gx_iret (by decide +kernel) rfl rfl ⟨_, rfl, h⟩
def wX3_enters (M : xM) (p1 : Int32) (p2 : Int32) (p3 : Int32) (p4 : Int32) (Q : Int32 → xM → Prop) : Prop :=
    wX3_isOutside M p1 (10 : Int32) (fun r3 M3 => (((¬ r3 = 0) → (wX3_enters_28 p1 p2 p3 p4 Q M3)) ∧ ((r3 = 0) → (wX3_isOutside M3 p2 (6 : Int32) (fun r12 M12 => (((¬ r12 = 0) → (wX3_enters_28 p1 p2 p3 p4 Q M12)) ∧ ((r12 = 0) → (wX3_isOutside M12 p4 (10 : Int32) (fun r22 M22 => (((r22 = 0) → (wX3_isOutside M22 p3 (26 : Int32) (fun r37 M37 => (((r37 = 0) → (wX2_enter M37 1 p1 p2 p3 p4 (fun M59 => Q (1 : Int32) M59))) ∧ ((¬ r37 = 0) → (wX3_refusal M37 (-2 : Int32) (fun r46 M46 => Q r46 M46))))))) ∧ ((¬ r22 = 0) → (wX3_enters_28 p1 p2 p3 p4 Q M22))))))))))))
set_option maxHeartbeats 4000000 in
set_option maxRecDepth 100000 in
theorem tX3_enters {l : Launch} {E : xE} {M : xM} {p1 : Int32} {p2 : Int32} {p3 : Int32} {p4 : Int32} {Q : Int32 → xM → Prop} (h : wX3_enters M p1 p2 p3 p4 Q) : Ct l E mX3_enters [.ref 0, .int p1, .int p2, .int p3, .int p4] M (xRi Q) := by
  refine Ct_of (by decide +kernel) rfl (Nat.le_of_ble_eq_true rfl) ?_
  unfold wX3_enters at h
  show Gx l E mX3_enters (xRi Q) 0 M [some (.ref 0), some (.int p1), some (.int p2), some (.int p3), some (.int p4)] []
  refine Gx_run (es := eX3_enters_0) (P := []) (M' := M) (L' := [some (.ref 0), some (.int p1), some (.int p2), some (.int p3), some (.int p4)]) (st' := [.int (10 : Int32), .int p1]) (pc' := 3) kX3_enters_0 rfl trivial rfl ?_
  refine Gx_callS (As := [.int p1, .int (10 : Int32)]) (by decide +kernel) ml_3_84 okX3_isOutside mvX3_isOutside rfl (by decide) (Nat.le_of_ble_eq_true rfl) (tX3_isOutside h) (fun rr M3 qq => ?_)
  obtain ⟨r3, rfl, h⟩ := qq
  show Gx l E mX3_enters _ 6 M3 [some (.ref 0), some (.int p1), some (.int p2), some (.int p3), some (.int p4)] [.int r3]
  refine Gx_if_ne (off := 22) (tgt := 28) (by decide +kernel) (by decide) (fun z => ?_) (fun z => ?_)
  · have h := h.1 z
    refine Gx_mask [true, false, false, false, false] (L' := [some (.ref 0), none, none, none, none]) rfl ?_
    exact tX3_enters_28  M3 h
  · have h := h.2 z
    refine Gx_run (es := eX3_enters_9) (P := []) (M' := M3) (L' := [some (.ref 0), some (.int p1), some (.int p2), some (.int p3), some (.int p4)]) (st' := [.int (6 : Int32), .int p2]) (pc' := 12) kX3_enters_9 rfl trivial rfl ?_
    refine Gx_callS (As := [.int p2, .int (6 : Int32)]) (by decide +kernel) ml_3_84 okX3_isOutside mvX3_isOutside rfl (by decide) (Nat.le_of_ble_eq_true rfl) (tX3_isOutside h) (fun rr M12 qq => ?_)
    obtain ⟨r12, rfl, h⟩ := qq
    show Gx l E mX3_enters _ 15 M12 [some (.ref 0), some (.int p1), some (.int p2), some (.int p3), some (.int p4)] [.int r12]
    refine Gx_if_ne (off := 13) (tgt := 28) (by decide +kernel) (by decide) (fun z => ?_) (fun z => ?_)
    · have h := h.1 z
      refine Gx_mask [true, false, false, false, false] (L' := [some (.ref 0), none, none, none, none]) rfl ?_
      exact tX3_enters_28  M12 h
    · have h := h.2 z
      refine Gx_run (es := eX3_enters_18) (P := []) (M' := M12) (L' := [some (.ref 0), some (.int p1), some (.int p2), some (.int p3), some (.int p4)]) (st' := [.int (10 : Int32), .int p4]) (pc' := 22) kX3_enters_18 rfl trivial rfl ?_
      refine Gx_callS (As := [.int p4, .int (10 : Int32)]) (by decide +kernel) ml_3_84 okX3_isOutside mvX3_isOutside rfl (by decide) (Nat.le_of_ble_eq_true rfl) (tX3_isOutside h) (fun rr M22 qq => ?_)
      obtain ⟨r22, rfl, h⟩ := qq
      show Gx l E mX3_enters _ 25 M22 [some (.ref 0), some (.int p1), some (.int p2), some (.int p3), some (.int p4)] [.int r22]
      refine Gx_if_eq (off := 9) (tgt := 34) (by decide +kernel) (by decide) (fun z => ?_) (fun z => ?_)
      · have h := h.1 z
        refine Gx_run (es := eX3_enters_34) (P := []) (M' := M22) (L' := [some (.ref 0), some (.int p1), some (.int p2), some (.int p3), some (.int p4)]) (st' := [.int (26 : Int32), .int p3]) (pc' := 37) kX3_enters_34 rfl trivial rfl ?_
        refine Gx_callS (As := [.int p3, .int (26 : Int32)]) (by decide +kernel) ml_3_84 okX3_isOutside mvX3_isOutside rfl (by decide) (Nat.le_of_ble_eq_true rfl) (tX3_isOutside h) (fun rr M37 qq => ?_)
        obtain ⟨r37, rfl, h⟩ := qq
        show Gx l E mX3_enters _ 40 M37 [some (.ref 0), some (.int p1), some (.int p2), some (.int p3), some (.int p4)] [.int r37]
        refine Gx_if_eq (off := 10) (tgt := 50) (by decide +kernel) (by decide) (fun z => ?_) (fun z => ?_)
        · have h := h.1 z
          refine Gx_run (es := eX3_enters_50) (P := [xkd 0 = 3]) (M' := M37) (L' := [some (.ref 0), some (.int p1), some (.int p2), some (.int p3), some (.int p4)]) (st' := [.int p4, .int p3, .int p2, .int p1, .ref 1]) (pc' := 59) kX3_enters_50 rfl ⟨rfl, trivial⟩ rfl ?_
          refine Gx_callV (As := [.int p1, .int p2, .int p3, .int p4]) (by decide +kernel) ml_3_128 okX2_enter mvX2_enter rfl (by decide) (Nat.le_of_ble_eq_true rfl) rfl rfl rfl (tX2_enter xVol_at1 h) (fun rr M59 qq => ?_)
          obtain ⟨rfl, h⟩ := qq
          show Gx l E mX3_enters _ 62 M59 [some (.ref 0), some (.int p1), some (.int p2), some (.int p3), some (.int p4)] []
          refine Gx_run (es := eX3_enters_62) (P := []) (M' := M59) (L' := [some (.ref 0), some (.int p1), some (.int p2), some (.int p3), some (.int p4)]) (st' := [.int (1 : Int32)]) (pc' := 63) kX3_enters_62 rfl trivial rfl ?_
          exact Gx_iret (by decide +kernel) rfl rfl ⟨_, rfl, h⟩
        · have h := h.2 z
          refine Gx_run (es := eX3_enters_43) (P := []) (M' := M37) (L' := [some (.ref 0), some (.int p1), some (.int p2), some (.int p3), some (.int p4)]) (st' := [.int (-2 : Int32), .ref 0]) (pc' := 46) kX3_enters_43 rfl trivial rfl ?_
          refine Gx_callV (As := [.int (-2 : Int32)]) (by decide +kernel) ml_3_63 okX3_refusal mvX3_refusal rfl (by decide) (Nat.le_of_ble_eq_true rfl) rfl rfl rfl (tX3_refusal h) (fun rr M46 qq => ?_)
          obtain ⟨r46, rfl, h⟩ := qq
          show Gx l E mX3_enters _ 49 M46 [some (.ref 0), some (.int p1), some (.int p2), some (.int p3), some (.int p4)] [.int r46]
          exact Gx_iret (by decide +kernel) rfl rfl ⟨_, rfl, h⟩
      · have h := h.2 z
        refine Gx_mask [true, false, false, false, false] (L' := [some (.ref 0), none, none, none, none]) rfl ?_
        exact tX3_enters_28  M22 h
def eX3_inode_0 : List xI := [(.iload_n 1, 1, 0, 0, 0), (.bipush 10, 2, 0, 0, (10))]
theorem kX3_inode_0 : xcode (xmb mX3_inode) (xmo mX3_inode) 0 eX3_inode_0 = true := by decide +kernel
def eX3_inode_15 : List xI := [(.iload_n 2, 1, 0, 0, 0)]
theorem kX3_inode_15 : xcode (xmb mX3_inode) (xmo mX3_inode) 15 eX3_inode_15 = true := by decide +kernel
def eX3_inode_60 : List xI := [(.aload_n 0, 1, 0, 0, 0), (.getfield 10, 3, 3, 0, 0), (.getfield 88, 3, 2, 0, 0), (.iload_n 1, 1, 0, 0, 0), (.iaload, 1, 0, 0, 0)]
theorem kX3_inode_60 : xcode (xmb mX3_inode) (xmo mX3_inode) 60 eX3_inode_60 = true := by decide +kernel
def eX3_inode_70 : List xI := [(.aload_n 0, 1, 0, 0, 0), (.getfield 10, 3, 3, 0, 0), (.getfield 91, 3, 2, 1, 0), (.iload_n 1, 1, 0, 0, 0), (.iaload, 1, 0, 0, 0)]
theorem kX3_inode_70 : xcode (xmb mX3_inode) (xmo mX3_inode) 70 eX3_inode_70 = true := by decide +kernel
def eX3_inode_80 : List xI := [(.aload_n 0, 1, 0, 0, 0), (.getfield 10, 3, 3, 0, 0), (.getfield 94, 3, 2, 2, 0), (.iload_n 1, 1, 0, 0, 0), (.iaload, 1, 0, 0, 0)]
theorem kX3_inode_80 : xcode (xmb mX3_inode) (xmo mX3_inode) 80 eX3_inode_80 = true := by decide +kernel
def eX3_inode_90 : List xI := [(.aload_n 0, 1, 0, 0, 0), (.getfield 10, 3, 3, 0, 0), (.getfield 97, 3, 2, 7, 0), (.iload_n 1, 1, 0, 0, 0), (.ishr, 1, 0, 0, 0), (.iconst 1, 1, 0, 0, (1)), (.iand, 1, 0, 0, 0)]
theorem kX3_inode_90 : xcode (xmb mX3_inode) (xmo mX3_inode) 90 eX3_inode_90 = true := by decide +kernel
def eX3_inode_102 : List xI := [(.getstatic 100, 3, 0, 0, 0), (.aload_n 0, 1, 0, 0, 0), (.getfield 10, 3, 3, 0, 0), (.getfield 88, 3, 2, 0, 0), (.iload_n 1, 1, 0, 0, 0), (.iaload, 1, 0, 0, 0), (.iaload, 1, 1, 0, 0)]
theorem kX3_inode_102 : xcode (xmb mX3_inode) (xmo mX3_inode) 102 eX3_inode_102 = true := by decide +kernel
def eX3_inode_116 : List xI := [(.getstatic 103, 3, 1, 0, 0), (.aload_n 0, 1, 0, 0, 0), (.getfield 10, 3, 3, 0, 0), (.getfield 88, 3, 2, 0, 0), (.iload_n 1, 1, 0, 0, 0), (.iaload, 1, 0, 0, 0), (.iaload, 1, 2, 0, 0)]
theorem kX3_inode_116 : xcode (xmb mX3_inode) (xmo mX3_inode) 116 eX3_inode_116 = true := by decide +kernel
def eX3_inode_130 : List xI := [(.aload_n 0, 1, 0, 0, 0), (.getfield 10, 3, 3, 0, 0), (.iload_n 1, 1, 0, 0, 0)]
theorem kX3_inode_130 : xcode (xmb mX3_inode) (xmo mX3_inode) 130 eX3_inode_130 = true := by decide +kernel
def eX3_inode_139 : List xI := [(.aload_n 0, 1, 0, 0, 0), (.bipush (-2), 2, 0, 0, (-2))]
theorem kX3_inode_139 : xcode (xmb mX3_inode) (xmo mX3_inode) 139 eX3_inode_139 = true := by decide +kernel
def eX3_inode_9 : List xI := [(.aload_n 0, 1, 0, 0, 0), (.iconst (-1), 1, 0, 0, (-1))]
theorem kX3_inode_9 : xcode (xmb mX3_inode) (xmo mX3_inode) 9 eX3_inode_9 = true := by decide +kernel
def wX3_inode (M : xM) (p1 : Int32) (p2 : Int32) (Q : Int32 → xM → Prop) : Prop :=
    wX3_isOutside M p1 (10 : Int32) (fun r3 M3 => (((r3 = 0) → ((((p2 = (0 : Int32)) → ((vp_in p1 10) ∧ Q (M3 2 p1.toNatClampNeg) M3)) ∧ ((¬ p2 = (0 : Int32)) → (((p2 = (1 : Int32)) → ((vp_in p1 10) ∧ Q (M3 3 p1.toNatClampNeg) M3)) ∧ ((¬ p2 = (1 : Int32)) → (((p2 = (2 : Int32)) → ((vp_in p1 10) ∧ Q (M3 4 p1.toNatClampNeg) M3)) ∧ ((¬ p2 = (2 : Int32)) → (((p2 = (3 : Int32)) → (Q (((M3 1 7) >>> (p1 &&& 31)) &&& (1 : Int32)) M3)) ∧ ((¬ p2 = (3 : Int32)) → (((p2 = (4 : Int32)) → ((vp_in p1 10) ∧ (vp_in (M3 2 p1.toNatClampNeg) 6) ∧ Q (xhold (M3 2 p1.toNatClampNeg).toNatClampNeg) M3)) ∧ ((¬ p2 = (4 : Int32)) → (((p2 = (5 : Int32)) → ((vp_in p1 10) ∧ (vp_in (M3 2 p1.toNatClampNeg) 6) ∧ Q (xlist (M3 2 p1.toNatClampNeg).toNatClampNeg) M3)) ∧ ((¬ p2 = (5 : Int32)) → (((p2 = (6 : Int32)) → (wX2_entriesIn M3 1 p1 (fun r135 M135 => Q r135 M135))) ∧ ((¬ p2 = (6 : Int32)) → (wX3_refusal M3 (-2 : Int32) (fun r142 M142 => Q r142 M142)))))))))))))))))) ∧ ((¬ r3 = 0) → (wX3_refusal M3 (-1 : Int32) (fun r11 M11 => Q r11 M11)))))
set_option maxHeartbeats 4000000 in
set_option maxRecDepth 100000 in
theorem tX3_inode {l : Launch} {E : xE} {M : xM} {p1 : Int32} {p2 : Int32} {Q : Int32 → xM → Prop} (h : wX3_inode M p1 p2 Q) : Ct l E mX3_inode [.ref 0, .int p1, .int p2] M (xRi Q) := by
  refine Ct_of (by decide +kernel) rfl (Nat.le_of_ble_eq_true rfl) ?_
  unfold wX3_inode at h
  show Gx l E mX3_inode (xRi Q) 0 M [some (.ref 0), some (.int p1), some (.int p2)] []
  refine Gx_run (es := eX3_inode_0) (P := []) (M' := M) (L' := [some (.ref 0), some (.int p1), some (.int p2)]) (st' := [.int (10 : Int32), .int p1]) (pc' := 3) kX3_inode_0 rfl trivial rfl ?_
  refine Gx_callS (As := [.int p1, .int (10 : Int32)]) (by decide +kernel) ml_3_84 okX3_isOutside mvX3_isOutside rfl (by decide) (Nat.le_of_ble_eq_true rfl) (tX3_isOutside h) (fun rr M3 qq => ?_)
  obtain ⟨r3, rfl, h⟩ := qq
  show Gx l E mX3_inode _ 6 M3 [some (.ref 0), some (.int p1), some (.int p2)] [.int r3]
  refine Gx_if_eq (off := 9) (tgt := 15) (by decide +kernel) (by decide) (fun z => ?_) (fun z => ?_)
  · have h := h.1 z
    refine Gx_run (es := eX3_inode_15) (P := []) (M' := M3) (L' := [some (.ref 0), some (.int p1), some (.int p2)]) (st' := [.int p2]) (pc' := 16) kX3_inode_15 rfl trivial rfl ?_
    by_cases z0 : p2 = (0 : Int32)
    · have h := h.1 z0
      refine Gx_tabAt (dflt := 123) (lo := 0) (hi := 6) (offs := #[44, 54, 64, 74, 86, 100, 114]) (len := 44) z0 (by decide +kernel) (by decide) (by decide) (off := 44) (tgt := 60) rfl (by decide) ?_
      obtain ⟨g60_0, h⟩ := h
      refine Gx_run (es := eX3_inode_60) (P := [xkd 0 = 3, xkd 1 = 2, xkd 2 = 5, vp_in p1 (xln 2)]) (M' := M3) (L' := [some (.ref 0), some (.int p1), some (.int p2)]) (st' := [.int (M3 2 p1.toNatClampNeg)]) (pc' := 69) kX3_inode_60 rfl ⟨rfl, rfl, rfl, g60_0, trivial⟩ rfl ?_
      exact Gx_iret (by decide +kernel) rfl rfl ⟨_, rfl, h⟩
    replace h := h.2 z0
    by_cases z1 : p2 = (1 : Int32)
    · have h := h.1 z1
      refine Gx_tabAt (dflt := 123) (lo := 0) (hi := 6) (offs := #[44, 54, 64, 74, 86, 100, 114]) (len := 44) z1 (by decide +kernel) (by decide) (by decide) (off := 54) (tgt := 70) rfl (by decide) ?_
      obtain ⟨g70_0, h⟩ := h
      refine Gx_run (es := eX3_inode_70) (P := [xkd 0 = 3, xkd 1 = 2, xkd 3 = 5, vp_in p1 (xln 3)]) (M' := M3) (L' := [some (.ref 0), some (.int p1), some (.int p2)]) (st' := [.int (M3 3 p1.toNatClampNeg)]) (pc' := 79) kX3_inode_70 rfl ⟨rfl, rfl, rfl, g70_0, trivial⟩ rfl ?_
      exact Gx_iret (by decide +kernel) rfl rfl ⟨_, rfl, h⟩
    replace h := h.2 z1
    by_cases z2 : p2 = (2 : Int32)
    · have h := h.1 z2
      refine Gx_tabAt (dflt := 123) (lo := 0) (hi := 6) (offs := #[44, 54, 64, 74, 86, 100, 114]) (len := 44) z2 (by decide +kernel) (by decide) (by decide) (off := 64) (tgt := 80) rfl (by decide) ?_
      obtain ⟨g80_0, h⟩ := h
      refine Gx_run (es := eX3_inode_80) (P := [xkd 0 = 3, xkd 1 = 2, xkd 4 = 5, vp_in p1 (xln 4)]) (M' := M3) (L' := [some (.ref 0), some (.int p1), some (.int p2)]) (st' := [.int (M3 4 p1.toNatClampNeg)]) (pc' := 89) kX3_inode_80 rfl ⟨rfl, rfl, rfl, g80_0, trivial⟩ rfl ?_
      exact Gx_iret (by decide +kernel) rfl rfl ⟨_, rfl, h⟩
    replace h := h.2 z2
    by_cases z3 : p2 = (3 : Int32)
    · have h := h.1 z3
      refine Gx_tabAt (dflt := 123) (lo := 0) (hi := 6) (offs := #[44, 54, 64, 74, 86, 100, 114]) (len := 44) z3 (by decide +kernel) (by decide) (by decide) (off := 74) (tgt := 90) rfl (by decide) ?_
      refine Gx_run (es := eX3_inode_90) (P := [xkd 0 = 3, xkd 1 = 2]) (M' := M3) (L' := [some (.ref 0), some (.int p1), some (.int p2)]) (st' := [.int (((M3 1 7) >>> (p1 &&& 31)) &&& (1 : Int32))]) (pc' := 101) kX3_inode_90 rfl ⟨rfl, rfl, trivial⟩ rfl ?_
      exact Gx_iret (by decide +kernel) rfl rfl ⟨_, rfl, h⟩
    replace h := h.2 z3
    by_cases z4 : p2 = (4 : Int32)
    · have h := h.1 z4
      refine Gx_tabAt (dflt := 123) (lo := 0) (hi := 6) (offs := #[44, 54, 64, 74, 86, 100, 114]) (len := 44) z4 (by decide +kernel) (by decide) (by decide) (off := 86) (tgt := 102) rfl (by decide) ?_
      obtain ⟨g102_0, g102_1, h⟩ := h
      refine Gx_run (es := eX3_inode_102) (P := [xkd 0 = 3, xkd 1 = 2, xkd 2 = 5, vp_in p1 (xln 2), 100 = 100, vp_in (M3 2 p1.toNatClampNeg) 6]) (M' := M3) (L' := [some (.ref 0), some (.int p1), some (.int p2)]) (st' := [.int (xhold (M3 2 p1.toNatClampNeg).toNatClampNeg)]) (pc' := 115) kX3_inode_102 rfl ⟨rfl, rfl, rfl, g102_0, rfl, g102_1, trivial⟩ rfl ?_
      exact Gx_iret (by decide +kernel) rfl rfl ⟨_, rfl, h⟩
    replace h := h.2 z4
    by_cases z5 : p2 = (5 : Int32)
    · have h := h.1 z5
      refine Gx_tabAt (dflt := 123) (lo := 0) (hi := 6) (offs := #[44, 54, 64, 74, 86, 100, 114]) (len := 44) z5 (by decide +kernel) (by decide) (by decide) (off := 100) (tgt := 116) rfl (by decide) ?_
      obtain ⟨g116_0, g116_1, h⟩ := h
      refine Gx_run (es := eX3_inode_116) (P := [xkd 0 = 3, xkd 1 = 2, xkd 2 = 5, vp_in p1 (xln 2), 101 = 101, vp_in (M3 2 p1.toNatClampNeg) 6]) (M' := M3) (L' := [some (.ref 0), some (.int p1), some (.int p2)]) (st' := [.int (xlist (M3 2 p1.toNatClampNeg).toNatClampNeg)]) (pc' := 129) kX3_inode_116 rfl ⟨rfl, rfl, rfl, g116_0, rfl, g116_1, trivial⟩ rfl ?_
      exact Gx_iret (by decide +kernel) rfl rfl ⟨_, rfl, h⟩
    replace h := h.2 z5
    by_cases z6 : p2 = (6 : Int32)
    · have h := h.1 z6
      refine Gx_tabAt (dflt := 123) (lo := 0) (hi := 6) (offs := #[44, 54, 64, 74, 86, 100, 114]) (len := 44) z6 (by decide +kernel) (by decide) (by decide) (off := 114) (tgt := 130) rfl (by decide) ?_
      refine Gx_run (es := eX3_inode_130) (P := [xkd 0 = 3]) (M' := M3) (L' := [some (.ref 0), some (.int p1), some (.int p2)]) (st' := [.int p1, .ref 1]) (pc' := 135) kX3_inode_130 rfl ⟨rfl, trivial⟩ rfl ?_
      refine Gx_callV (As := [.int p1]) (by decide +kernel) ml_3_106 okX2_entriesIn mvX2_entriesIn rfl (by decide) (Nat.le_of_ble_eq_true rfl) rfl rfl rfl (tX2_entriesIn xVol_at1 h) (fun rr M135 qq => ?_)
      obtain ⟨r135, rfl, h⟩ := qq
      show Gx l E mX3_inode _ 138 M135 [some (.ref 0), some (.int p1), some (.int p2)] [.int r135]
      exact Gx_iret (by decide +kernel) rfl rfl ⟨_, rfl, h⟩
    replace h := h.2 z6
    suffices hk : Gx l E mX3_inode _ 139 M3 [some (.ref 0), some (.int p1), some (.int p2)] [] by
      refine Gx_tableOut (dflt := 123) (lo := 0) (hi := 6) (offs := #[44, 54, 64, 74, 86, 100, 114]) (len := 44) (tgt := 139) (by decide +kernel) ?_ (by decide) hk
      have n0 := lv_neT (a := 0) z0 (by decide)
      have n1 := lv_neT (a := 1) z1 (by decide)
      have n2 := lv_neT (a := 2) z2 (by decide)
      have n3 := lv_neT (a := 3) z3 (by decide)
      have n4 := lv_neT (a := 4) z4 (by decide)
      have n5 := lv_neT (a := 5) z5 (by decide)
      have n6 := lv_neT (a := 6) z6 (by decide)
      omega
    refine Gx_run (es := eX3_inode_139) (P := []) (M' := M3) (L' := [some (.ref 0), some (.int p1), some (.int p2)]) (st' := [.int (-2 : Int32), .ref 0]) (pc' := 142) kX3_inode_139 rfl trivial rfl ?_
    refine Gx_callV (As := [.int (-2 : Int32)]) (by decide +kernel) ml_3_63 okX3_refusal mvX3_refusal rfl (by decide) (Nat.le_of_ble_eq_true rfl) rfl rfl rfl (tX3_refusal h) (fun rr M142 qq => ?_)
    obtain ⟨r142, rfl, h⟩ := qq
    show Gx l E mX3_inode _ 145 M142 [some (.ref 0), some (.int p1), some (.int p2)] [.int r142]
    exact Gx_iret (by decide +kernel) rfl rfl ⟨_, rfl, h⟩
  · have h := h.2 z
    refine Gx_run (es := eX3_inode_9) (P := []) (M' := M3) (L' := [some (.ref 0), some (.int p1), some (.int p2)]) (st' := [.int (-1 : Int32), .ref 0]) (pc' := 11) kX3_inode_9 rfl trivial rfl ?_
    refine Gx_callV (As := [.int (-1 : Int32)]) (by decide +kernel) ml_3_63 okX3_refusal mvX3_refusal rfl (by decide) (Nat.le_of_ble_eq_true rfl) rfl rfl rfl (tX3_refusal h) (fun rr M11 qq => ?_)
    obtain ⟨r11, rfl, h⟩ := qq
    show Gx l E mX3_inode _ 14 M11 [some (.ref 0), some (.int p1), some (.int p2)] [.int r11]
    exact Gx_iret (by decide +kernel) rfl rfl ⟨_, rfl, h⟩
