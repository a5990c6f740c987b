/-! walks: X4_volume, X3_volume -/
def eX4_volume_0 : List xI := [(.aload_n 0, 1, 0, 0, 0), (.iconst 0, 1, 0, 0, (0))]
theorem kX4_volume_0 : xcode (xmb mX4_volume) (xmo mX4_volume) 0 eX4_volume_0 = true := by decide +kernel
def eX4_volume_5 : List xI := [(.istore_n 1, 1, 0, 0, 0), (.aload_n 0, 1, 0, 0, 0), (.getfield 68, 3, 4, 9, 0)]
theorem kX4_volume_5 : xcode (xmb mX4_volume) (xmo mX4_volume) 5 eX4_volume_5 = true := by decide +kernel
def eX4_volume_21 : List xI := [(.aload_n 0, 1, 0, 0, 0), (.getfield 68, 3, 4, 9, 0)]
theorem kX4_volume_21 : xcode (xmb mX4_volume) (xmo mX4_volume) 21 eX4_volume_21 = true := by decide +kernel
def eX4_volume_39 : List xI := [(.sipush (-2000), 3, 0, 0, (-2000)), (.aload_n 0, 1, 0, 0, 0), (.getfield 87, 3, 4, 10, 0), (.isub, 1, 0, 0, 0)]
theorem kX4_volume_39 : xcode (xmb mX4_volume) (xmo mX4_volume) 39 eX4_volume_39 = true := by decide +kernel
def eX4_volume_47 : List xI := [(.istore_n 2, 1, 0, 0, 0), (.aload_n 0, 1, 0, 0, 0), (.iconst 0, 1, 0, 0, (0)), (.putfield 58, 3, 4, 7, 0), (.iload_n 2, 1, 0, 0, 0)]
theorem kX4_volume_47 : xcode (xmb mX4_volume) (xmo mX4_volume) 47 eX4_volume_47 = true := by decide +kernel
def eX4_volume_28 : List xI := [(.sipush (-1000), 3, 0, 0, (-1000)), (.aload_n 0, 1, 0, 0, 0), (.getfield 61, 3, 4, 8, 0), (.isub, 1, 0, 0, 0)]
theorem kX4_volume_28 : xcode (xmb mX4_volume) (xmo mX4_volume) 28 eX4_volume_28 = true := by decide +kernel
def eX4_volume_13 : List xI := [(.aload_n 0, 1, 0, 0, 0), (.getfield 87, 3, 4, 10, 0), (.iconst (-1), 1, 0, 0, (-1))]
theorem kX4_volume_13 : xcode (xmb mX4_volume) (xmo mX4_volume) 13 eX4_volume_13 = true := by decide +kernel
def eX4_volume_55 : List xI := [(.aload_n 0, 1, 0, 0, 0), (.iconst 1, 1, 0, 0, (1))]
theorem kX4_volume_55 : xcode (xmb mX4_volume) (xmo mX4_volume) 55 eX4_volume_55 = true := by decide +kernel
def eX4_volume_60 : List xI := [(.pop, 1, 0, 0, 0), (.aload_n 0, 1, 0, 0, 0), (.iconst 0, 1, 0, 0, (0)), (.putfield 58, 3, 4, 7, 0), (.iload_n 1, 1, 0, 0, 0)]
theorem kX4_volume_60 : xcode (xmb mX4_volume) (xmo mX4_volume) 60 eX4_volume_60 = true := by decide +kernel
def wX4_volume_47 (Q : Int32 → xM → Prop) (M : xM) (s0 : Int32) : Prop :=
    Q s0 (xup M 50 7 (0 : Int32))
set_option maxHeartbeats 4000000 in
set_option maxRecDepth 100000 in
theorem tX4_volume_47 {l : Launch} {E : xE} {Q : Int32 → xM → Prop} (M : xM) (s0 : Int32) (h : wX4_volume_47  Q M s0) : Gx l E mX4_volume (xRi Q) 47 M [some (.ref 50), none, none] [.int s0] := by
  unfold wX4_volume_47 at h
  refine Gx_run (es := eX4_volume_47) (P := [xkd 50 = 4]) (M' := (xup M 50 7 (0 : Int32))) (L' := [some (.ref 50), none, some (.int s0)]) (st' := [.int s0]) (pc' := 54) kX4_volume_47 rfl ⟨rfl, trivial⟩ rfl ?_
  exact Gx_iret (by decide +kernel) rfl rfl ⟨_, rfl, h⟩
def wX4_volume_21 (Q : Int32 → xM → Prop) (M : xM) : Prop :=
    ((((M 50 9) = 0) → (wX4_volume_47  Q M ((-2000 : Int32) - (M 50 10)))) ∧ ((¬ (M 50 9) = 0) → (wX4_volume_47  Q M ((-1000 : Int32) - (M 50 8)))))
set_option maxHeartbeats 4000000 in
set_option maxRecDepth 100000 in
theorem tX4_volume_21 {l : Launch} {E : xE} {Q : Int32 → xM → Prop} (M : xM) (h : wX4_volume_21  Q M ) : Gx l E mX4_volume (xRi Q) 21 M [some (.ref 50), none, none] [] := by
  unfold wX4_volume_21 at h
  refine Gx_run (es := eX4_volume_21) (P := [xkd 50 = 4]) (M' := M) (L' := [some (.ref 50), none, none]) (st' := [.int (M 50 9)]) (pc' := 25) kX4_volume_21 rfl ⟨rfl, trivial⟩ rfl ?_
  refine Gx_if_eq (off := 14) (tgt := 39) (by decide +kernel) (by decide) (fun z => ?_) (fun z => ?_)
  · have h := h.1 z
    refine Gx_run (es := eX4_volume_39) (P := [xkd 50 = 4]) (M' := M) (L' := [some (.ref 50), none, none]) (st' := [.int ((-2000 : Int32) - (M 50 10))]) (pc' := 47) kX4_volume_39 rfl ⟨rfl, trivial⟩ rfl ?_
    refine Gx_mask [true, false, false] (L' := [some (.ref 50), none, none]) rfl ?_
    exact tX4_volume_47  M ((-2000 : Int32) - (M 50 10)) h
  · have h := h.2 z
    refine Gx_run (es := eX4_volume_28) (P := [xkd 50 = 4]) (M' := M) (L' := [some (.ref 50), none, none]) (st' := [.int ((-1000 : Int32) - (M 50 8))]) (pc' := 36) kX4_volume_28 rfl ⟨rfl, trivial⟩ rfl ?_
    refine Gx_goto (off := 11) (tgt := 47) (by decide +kernel) (by decide) ?_
    refine Gx_mask [true, false, false] (L' := [some (.ref 50), none, none]) rfl ?_
    exact tX4_volume_47  M ((-1000 : Int32) - (M 50 8)) h
def wX4_volume (M : xM) (Q : Int32 → xM → Prop) : Prop :=
    wX4_goesThrough M (0 : Int32) (fun r2 M2 => (((¬ (M2 50 9) = 0) → (wX4_volume_21  Q M2)) ∧ (((M2 50 9) = 0) → (((((M2 50 10) = (-1 : Int32)) → (wX4_goesThrough M2 (1 : Int32) (fun r57 M57 => Q r2 (xup M57 50 7 (0 : Int32))))) ∧ ((¬ (M2 50 10) = (-1 : Int32)) → (wX4_volume_21  Q M2)))))))
set_option maxHeartbeats 4000000 in
set_option maxRecDepth 100000 in
theorem tX4_volume {l : Launch} {E : xE} {M : xM} {Q : Int32 → xM → Prop} (h : wX4_volume M  Q) : Ct l E mX4_volume [.ref 50] M (xRi Q) := by
  refine Ct_of (by decide +kernel) rfl (Nat.le_of_ble_eq_true rfl) ?_
  unfold wX4_volume at h
  show Gx l E mX4_volume (xRi Q) 0 M [some (.ref 50), none, none] []
  refine Gx_run (es := eX4_volume_0) (P := []) (M' := M) (L' := [some (.ref 50), none, none]) (st' := [.int (0 : Int32), .ref 50]) (pc' := 2) kX4_volume_0 rfl trivial rfl ?_
  refine Gx_callV (As := [.int (0 : Int32)]) (by decide +kernel) ml_4_107 okX4_goesThrough mvX4_goesThrough rfl (by decide) (Nat.le_of_ble_eq_true rfl) rfl rfl rfl (tX4_goesThrough h) (fun rr M2 qq => ?_)
  obtain ⟨r2, rfl, h⟩ := qq
  show Gx l E mX4_volume _ 5 M2 [some (.ref 50), none, none] [.int r2]
  refine Gx_run (es := eX4_volume_5) (P := [xkd 50 = 4]) (M' := M2) (L' := [some (.ref 50), some (.int r2), none]) (st' := [.int (M2 50 9)]) (pc' := 10) kX4_volume_5 rfl ⟨rfl, trivial⟩ rfl ?_
  refine Gx_if_ne (off := 11) (tgt := 21) (by decide +kernel) (by decide) (fun z => ?_) (fun z => ?_)
  · have h := h.1 z
    refine Gx_mask [true, false, false] (L' := [some (.ref 50), none, none]) rfl ?_
    exact tX4_volume_21  M2 h
  · have h := h.2 z
    refine Gx_run (es := eX4_volume_13) (P := [xkd 50 = 4]) (M' := M2) (L' := [some (.ref 50), some (.int r2), none]) (st' := [.int (-1 : Int32), .int (M2 50 10)]) (pc' := 18) kX4_volume_13 rfl ⟨rfl, trivial⟩ rfl ?_
    refine Gx_icmp_eq (off := 37) (tgt := 55) (by decide +kernel) (by decide) (fun z => ?_) (fun z => ?_)
    · have h := h.1 z
      refine Gx_run (es := eX4_volume_55) (P := []) (M' := M2) (L' := [some (.ref 50), some (.int r2), none]) (st' := [.int (1 : Int32), .ref 50]) (pc' := 57) kX4_volume_55 rfl trivial rfl ?_
      refine Gx_callV (As := [.int (1 : Int32)]) (by decide +kernel) ml_4_107 okX4_goesThrough mvX4_goesThrough rfl (by decide) (Nat.le_of_ble_eq_true rfl) rfl rfl rfl (tX4_goesThrough h) (fun rr M57 qq => ?_)
      obtain ⟨r57, rfl, h⟩ := qq
      show Gx l E mX4_volume _ 60 M57 [some (.ref 50), some (.int r2), none] [.int r57]
      refine Gx_run (es := eX4_volume_60) (P := [xkd 50 = 4]) (M' := (xup M57 50 7 (0 : Int32))) (L' := [some (.ref 50), some (.int r2), none]) (st' := [.int r2]) (pc' := 67) kX4_volume_60 rfl ⟨rfl, trivial⟩ rfl ?_
      exact Gx_iret (by decide +kernel) rfl rfl ⟨_, rfl, h⟩
    · have h := h.2 z
      refine Gx_mask [true, false, false] (L' := [some (.ref 50), none, none]) rfl ?_
      exact tX4_volume_21  M2 h
def eX3_volume_0 : List xI := [(.aload_n 0, 1, 0, 0, 0), (.getfield 43, 3, 3, 7, 0)]
theorem kX3_volume_0 : xcode (xmb mX3_volume) (xmo mX3_volume) 0 eX3_volume_0 = true := by decide +kernel
def eX3_volume_7 : List xI := [(.istore_n 1, 1, 0, 0, 0), (.iconst 0, 1, 0, 0, (0)), (.istore_n 2, 1, 0, 0, 0), (.iconst 0, 1, 0, 0, (0)), (.istore_n 3, 1, 0, 0, 0)]
theorem kX3_volume_7 : xcode (xmb mX3_volume) (xmo mX3_volume) 7 eX3_volume_7 = true := by decide +kernel
def eX3_volume_12 : List xI := [(.iload_n 1, 1, 0, 0, 0)]
theorem kX3_volume_12 : xcode (xmb mX3_volume) (xmo mX3_volume) 12 eX3_volume_12 = true := by decide +kernel
def eX3_volume_55 : List xI := [(.aload_n 0, 1, 0, 0, 0), (.getfield 43, 3, 3, 7, 0), (.iconst 0, 1, 0, 0, (0)), (.putfield 67, 3, 1, 1, 0), (.iload_n 1, 1, 0, 0, 0)]
theorem kX3_volume_55 : xcode (xmb mX3_volume) (xmo mX3_volume) 55 eX3_volume_55 = true := by decide +kernel
def eX3_volume_71 : List xI := [(.iload_n 1, 1, 0, 0, 0)]
theorem kX3_volume_71 : xcode (xmb mX3_volume) (xmo mX3_volume) 71 eX3_volume_71 = true := by decide +kernel
def eX3_volume_67 : List xI := [(.iload_n 2, 1, 0, 0, 0)]
theorem kX3_volume_67 : xcode (xmb mX3_volume) (xmo mX3_volume) 67 eX3_volume_67 = true := by decide +kernel
def eX3_volume_16 : List xI := [(.iload_n 3, 1, 0, 0, 0), (.aload_n 0, 1, 0, 0, 0), (.getfield 43, 3, 3, 7, 0), (.getfield 67, 3, 1, 1, 0)]
theorem kX3_volume_16 : xcode (xmb mX3_volume) (xmo mX3_volume) 16 eX3_volume_16 = true := by decide +kernel
def eX3_volume_27 : List xI := [(.iload_n 2, 1, 0, 0, 0), (.bipush 96, 2, 0, 0, (96))]
theorem kX3_volume_27 : xcode (xmb mX3_volume) (xmo mX3_volume) 27 eX3_volume_27 = true := by decide +kernel
def eX3_volume_33 : List xI := [(.aload_n 0, 1, 0, 0, 0), (.iload_n 3, 1, 0, 0, 0)]
theorem kX3_volume_33 : xcode (xmb mX3_volume) (xmo mX3_volume) 33 eX3_volume_33 = true := by decide +kernel
def eX3_volume_38 : List xI := [(.iload_n 3, 1, 0, 0, 0), (.aload_n 0, 1, 0, 0, 0), (.getfield 43, 3, 3, 7, 0), (.iload_n 3, 1, 0, 0, 0)]
theorem kX3_volume_38 : xcode (xmb mX3_volume) (xmo mX3_volume) 38 eX3_volume_38 = true := by decide +kernel
def eX3_volume_47 : List xI := [(.iadd, 1, 0, 0, 0), (.istore_n 3, 1, 0, 0, 0), (.iinc 2 1, 3, 0, 0, (1))]
theorem kX3_volume_47 : xcode (xmb mX3_volume) (xmo mX3_volume) 47 eX3_volume_47 = true := by decide +kernel
def wX3_volume_72 (Q : Int32 → xM → Prop) (M : xM) (s0 : Int32) : Prop :=
    Q s0 M
set_option maxHeartbeats 4000000 in
set_option maxRecDepth 100000 in
theorem tX3_volume_72 {l : Launch} {E : xE} {Q : Int32 → xM → Prop} (M : xM) (s0 : Int32) (h : wX3_volume_72  Q M s0) : Gx l E mX3_volume (xRi Q) 72 M [none, none, none, none] [.int s0] := by
  unfold wX3_volume_72 at h
  exact Gx_iret (by decide +kernel) rfl rfl ⟨_, rfl, h⟩
def wX3_volume_55 (Q : Int32 → xM → Prop) (M : xM) (a1 : Int32) (a2 : Int32) : Prop :=
    (((¬ a1 = 0) → (wX3_volume_72  Q (xup M 46 1 (0 : Int32)) a1)) ∧ ((a1 = 0) → (wX3_volume_72  Q (xup M 46 1 (0 : Int32)) a2)))
set_option maxHeartbeats 4000000 in
set_option maxRecDepth 100000 in
theorem tX3_volume_55 {l : Launch} {E : xE} {Q : Int32 → xM → Prop} (M : xM) (a1 : Int32) (a2 : Int32) (h : wX3_volume_55  Q M a1 a2) : Gx l E mX3_volume (xRi Q) 55 M [some (.ref 0), some (.int a1), some (.int a2), none] [] := by
  unfold wX3_volume_55 at h
  refine Gx_run (es := eX3_volume_55) (P := [xkd 0 = 3, xkd 46 = 1]) (M' := (xup M 46 1 (0 : Int32))) (L' := [some (.ref 0), some (.int a1), some (.int a2), none]) (st' := [.int a1]) (pc' := 64) kX3_volume_55 rfl ⟨rfl, rfl, trivial⟩ rfl ?_
  refine Gx_if_ne (off := 7) (tgt := 71) (by decide +kernel) (by decide) (fun z => ?_) (fun z => ?_)
  · have h := h.1 z
    refine Gx_run (es := eX3_volume_71) (P := []) (M' := (xup M 46 1 (0 : Int32))) (L' := [some (.ref 0), some (.int a1), some (.int a2), none]) (st' := [.int a1]) (pc' := 72) kX3_volume_71 rfl trivial rfl ?_
    refine Gx_mask [false, false, false, false] (L' := [none, none, none, none]) rfl ?_
    exact tX3_volume_72  (xup M 46 1 (0 : Int32)) a1 h
  · have h := h.2 z
    refine Gx_run (es := eX3_volume_67) (P := []) (M' := (xup M 46 1 (0 : Int32))) (L' := [some (.ref 0), some (.int a1), some (.int a2), none]) (st' := [.int a2]) (pc' := 68) kX3_volume_67 rfl trivial rfl ?_
    refine Gx_goto (off := 4) (tgt := 72) (by decide +kernel) (by decide) ?_
    refine Gx_mask [false, false, false, false] (L' := [none, none, none, none]) rfl ?_
    exact tX3_volume_72  (xup M 46 1 (0 : Int32)) a2 h
def lX3_volume_12 (Q : Int32 → xM → Prop) : Nat → xM → Int32 → Int32 → Int32 → Prop
  | 0 => fun _ _ _ _ => False
  | n + 1 => let k12 := lX3_volume_12  Q n; fun M a1 a2 a3 =>
    (((¬ a1 = 0) → (wX3_volume_55  Q M a1 a2)) ∧ ((a1 = 0) → (((((M 46 1) ≤ a3) → (wX3_volume_55  Q M a1 a2)) ∧ ((¬ (M 46 1) ≤ a3) → (((((96 : Int32) ≤ a2) → (wX3_volume_55  Q M a1 a2)) ∧ ((¬ (96 : Int32) ≤ a2) → (wX3_carryOut M a3 (fun M35 => wX1_lengthAt M35 a3 (fun r44 M44 => k12 M44 a1 (a2 + (1 : Int32)) (a3 + r44))))))))))))
set_option maxHeartbeats 4000000 in
set_option maxRecDepth 100000 in
theorem tX3_volume_12 {l : Launch} {E : xE} {Q : Int32 → xM → Prop} (n : Nat) : ∀ (M : xM) (a1 : Int32) (a2 : Int32) (a3 : Int32), lX3_volume_12  Q n M a1 a2 a3 → Gx l E mX3_volume (xRi Q) 12 M [some (.ref 0), some (.int a1), some (.int a2), some (.int a3)] [] := by
  induction n with
  | zero => intro M a1 a2 a3 h; exact h.elim
  | succ n hk12 =>
      intro M a1 a2 a3 h
      unfold lX3_volume_12 at h
      dsimp only at h
      refine Gx_run (es := eX3_volume_12) (P := []) (M' := M) (L' := [some (.ref 0), some (.int a1), some (.int a2), some (.int a3)]) (st' := [.int a1]) (pc' := 13) kX3_volume_12 rfl trivial rfl ?_
      refine Gx_if_ne (off := 42) (tgt := 55) (by decide +kernel) (by decide) (fun z => ?_) (fun z => ?_)
      · have h := h.1 z
        refine Gx_mask [true, true, true, false] (L' := [some (.ref 0), some (.int a1), some (.int a2), none]) rfl ?_
        exact tX3_volume_55  M a1 a2 h
      · have h := h.2 z
        refine Gx_run (es := eX3_volume_16) (P := [xkd 0 = 3, xkd 46 = 1]) (M' := M) (L' := [some (.ref 0), some (.int a1), some (.int a2), some (.int a3)]) (st' := [.int (M 46 1), .int a3]) (pc' := 24) kX3_volume_16 rfl ⟨rfl, rfl, trivial⟩ rfl ?_
        refine Gx_icmp_ge (off := 31) (tgt := 55) (by decide +kernel) (by decide) (fun z => ?_) (fun z => ?_)
        · have h := h.1 z
          refine Gx_mask [true, true, true, false] (L' := [some (.ref 0), some (.int a1), some (.int a2), none]) rfl ?_
          exact tX3_volume_55  M a1 a2 h
        · have h := h.2 z
          refine Gx_run (es := eX3_volume_27) (P := []) (M' := M) (L' := [some (.ref 0), some (.int a1), some (.int a2), some (.int a3)]) (st' := [.int (96 : Int32), .int a2]) (pc' := 30) kX3_volume_27 rfl trivial rfl ?_
          refine Gx_icmp_ge (off := 25) (tgt := 55) (by decide +kernel) (by decide) (fun z => ?_) (fun z => ?_)
          · have h := h.1 z
            refine Gx_mask [true, true, true, false] (L' := [some (.ref 0), some (.int a1), some (.int a2), none]) rfl ?_
            exact tX3_volume_55  M a1 a2 h
          · have h := h.2 z
            refine Gx_run (es := eX3_volume_33) (P := []) (M' := M) (L' := [some (.ref 0), some (.int a1), some (.int a2), some (.int a3)]) (st' := [.int a3, .ref 0]) (pc' := 35) kX3_volume_33 rfl trivial rfl ?_
            refine Gx_callV (As := [.int a3]) (by decide +kernel) ml_3_77 okX3_carryOut mvX3_carryOut rfl (by decide) (Nat.le_of_ble_eq_true rfl) rfl rfl rfl (tX3_carryOut h) (fun rr M35 qq => ?_)
            obtain ⟨rfl, h⟩ := qq
            show Gx l E mX3_volume _ 38 M35 [some (.ref 0), some (.int a1), some (.int a2), some (.int a3)] []
            refine Gx_run (es := eX3_volume_38) (P := [xkd 0 = 3]) (M' := M35) (L' := [some (.ref 0), some (.int a1), some (.int a2), some (.int a3)]) (st' := [.int a3, .ref 46, .int a3]) (pc' := 44) kX3_volume_38 rfl ⟨rfl, trivial⟩ rfl ?_
            refine Gx_callV (As := [.int a3]) (by decide +kernel) ml_3_81 okX1_lengthAt mvX1_lengthAt rfl (by decide) (Nat.le_of_ble_eq_true rfl) rfl rfl rfl (tX1_lengthAt h) (fun rr M44 qq => ?_)
            obtain ⟨r44, rfl, h⟩ := qq
            show Gx l E mX3_volume _ 47 M44 [some (.ref 0), some (.int a1), some (.int a2), some (.int a3)] [.int r44, .int a3]
            refine Gx_run (es := eX3_volume_47) (P := []) (M' := M44) (L' := [some (.ref 0), some (.int a1), some (.int (a2 + (1 : Int32))), some (.int (a3 + r44))]) (st' := []) (pc' := 52) kX3_volume_47 rfl trivial rfl ?_
            refine Gx_goto (off := -40) (tgt := 12) (by decide +kernel) (by decide) ?_
            refine Gx_mask [true, true, true, true] (L' := [some (.ref 0), some (.int a1), some (.int (a2 + (1 : Int32))), some (.int (a3 + r44))]) rfl ?_
            exact hk12 M44 a1 (a2 + (1 : Int32)) (a3 + r44) h
def wX3_volume (M : xM) (Q : Int32 → xM → Prop) : Prop :=
    wX1_fault M (fun r4 M4 => (∃ n : Nat, lX3_volume_12  Q n M4 r4 (0 : Int32) (0 : Int32)))
set_option maxHeartbeats 4000000 in
set_option maxRecDepth 100000 in
theorem tX3_volume {l : Launch} {E : xE} {M : xM} {Q : Int32 → xM → Prop} (h : wX3_volume M  Q) : Ct l E mX3_volume [.ref 0] M (xRi Q) := by
  refine Ct_of (by decide +kernel) rfl (Nat.le_of_ble_eq_true rfl) ?_
  unfold wX3_volume at h
  show Gx l E mX3_volume (xRi Q) 0 M [some (.ref 0), none, none, none] []
  refine Gx_run (es := eX3_volume_0) (P := [xkd 0 = 3]) (M' := M) (L' := [some (.ref 0), none, none, none]) (st' := [.ref 46]) (pc' := 4) kX3_volume_0 rfl ⟨rfl, trivial⟩ rfl ?_
  refine Gx_callV (As := []) (by decide +kernel) ml_3_73 okX1_fault mvX1_fault rfl (by decide) (Nat.le_of_ble_eq_true rfl) rfl rfl rfl (tX1_fault h) (fun rr M4 qq => ?_)
  obtain ⟨r4, rfl, h⟩ := qq
  show Gx l E mX3_volume _ 7 M4 [some (.ref 0), none, none, none] [.int r4]
  refine Gx_run (es := eX3_volume_7) (P := []) (M' := M4) (L' := [some (.ref 0), some (.int r4), some (.int (0 : Int32)), some (.int (0 : Int32))]) (st' := []) (pc' := 12) kX3_volume_7 rfl trivial rfl ?_
  refine Gx_mask [true, true, true, true] (L' := [some (.ref 0), some (.int r4), some (.int (0 : Int32)), some (.int (0 : Int32))]) rfl ?_
  obtain ⟨n, h⟩ := h
  exact tX3_volume_12  n M4 r4 (0 : Int32) (0 : Int32) h
