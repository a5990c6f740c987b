/-! walks: X3_mend, X3_pointerThen, X3_question, X3_questions, X3_reasons, X3_second, X3_slotThen, X3_sound, X3_then, X3_whatIs -/
def eX3_mend_0 : List xI := [(.iload_n 1, 1, 0, 0, 0)]
theorem kX3_mend_0 : xcode (xmb mX3_mend) (xmo mX3_mend) 0 eX3_mend_0 = true := by decide +kernel
def eX3_mend_16 : List xI := [(.aload_n 0, 1, 0, 0, 0), (.getfield 33, 3, 3, 5, 0), (.aload_n 0, 1, 0, 0, 0), (.getfield 10, 3, 3, 0, 0), (.aload_n 0, 1, 0, 0, 0), (.getfield 57, 3, 3, 11, 0)]
theorem kX3_mend_16 : xcode (xmb mX3_mend) (xmo mX3_mend) 16 eX3_mend_16 = true := by decide +kernel
def eX3_mend_31 : List xI := [(.aload_n 0, 1, 0, 0, 0), (.getfield 33, 3, 3, 5, 0), (.getfield 144, 3, 0, 4, 0), (.istore_n 2, 1, 0, 0, 0), (.bipush (-9), 2, 0, 0, (-9)), (.istore_n 3, 1, 0, 0, 0), (.iconst 1, 1, 0, 0, (1)), (.istore 4, 2, 0, 0, 0)]
theorem kX3_mend_31 : xcode (xmb mX3_mend) (xmo mX3_mend) 31 eX3_mend_31 = true := by decide +kernel
def eX3_mend_45 : List xI := [(.iload 4, 2, 0, 0, 0), (.bipush 10, 2, 0, 0, (10))]
theorem kX3_mend_45 : xcode (xmb mX3_mend) (xmo mX3_mend) 45 eX3_mend_45 = true := by decide +kernel
def eX3_mend_115 : List xI := [(.iload_n 1, 1, 0, 0, 0)]
theorem kX3_mend_115 : xcode (xmb mX3_mend) (xmo mX3_mend) 115 eX3_mend_115 = true := by decide +kernel
def eX3_mend_125 : List xI := [(.iload_n 3, 1, 0, 0, 0)]
theorem kX3_mend_125 : xcode (xmb mX3_mend) (xmo mX3_mend) 125 eX3_mend_125 = true := by decide +kernel
def eX3_mend_119 : List xI := [(.iload_n 3, 1, 0, 0, 0), (.bipush (-9), 2, 0, 0, (-9))]
theorem kX3_mend_119 : xcode (xmb mX3_mend) (xmo mX3_mend) 119 eX3_mend_119 = true := by decide +kernel
def eX3_mend_129 : List xI := [(.iload_n 2, 1, 0, 0, 0)]
theorem kX3_mend_129 : xcode (xmb mX3_mend) (xmo mX3_mend) 129 eX3_mend_129 = true := by decide +kernel
def eX3_mend_52 : List xI := [(.aload_n 0, 1, 0, 0, 0), (.getfield 16, 3, 3, 1, 0), (.aload_n 0, 1, 0, 0, 0), (.getfield 10, 3, 3, 0, 0)]
theorem kX3_mend_52 : xcode (xmb mX3_mend) (xmo mX3_mend) 52 eX3_mend_52 = true := by decide +kernel
def eX3_mend_63 : List xI := [(.aload_n 0, 1, 0, 0, 0), (.getfield 16, 3, 3, 1, 0), (.iload 4, 2, 0, 0, 0)]
theorem kX3_mend_63 : xcode (xmb mX3_mend) (xmo mX3_mend) 63 eX3_mend_63 = true := by decide +kernel
def eX3_mend_72 : List xI := [(.aload_n 0, 1, 0, 0, 0), (.getfield 33, 3, 3, 5, 0), (.aload_n 0, 1, 0, 0, 0), (.getfield 16, 3, 3, 1, 0), (.aload_n 0, 1, 0, 0, 0), (.getfield 57, 3, 3, 11, 0)]
theorem kX3_mend_72 : xcode (xmb mX3_mend) (xmo mX3_mend) 72 eX3_mend_72 = true := by decide +kernel
def eX3_mend_87 : List xI := [(.aload_n 0, 1, 0, 0, 0), (.getfield 33, 3, 3, 5, 0), (.getfield 144, 3, 0, 4, 0), (.iload_n 2, 1, 0, 0, 0)]
theorem kX3_mend_87 : xcode (xmb mX3_mend) (xmo mX3_mend) 87 eX3_mend_87 = true := by decide +kernel
def eX3_mend_109 : List xI := [(.iinc 4 1, 3, 0, 0, (1))]
theorem kX3_mend_109 : xcode (xmb mX3_mend) (xmo mX3_mend) 109 eX3_mend_109 = true := by decide +kernel
def eX3_mend_98 : List xI := [(.aload_n 0, 1, 0, 0, 0), (.getfield 33, 3, 3, 5, 0), (.getfield 144, 3, 0, 4, 0), (.istore_n 2, 1, 0, 0, 0), (.iload 4, 2, 0, 0, 0), (.istore_n 3, 1, 0, 0, 0)]
theorem kX3_mend_98 : xcode (xmb mX3_mend) (xmo mX3_mend) 98 eX3_mend_98 = true := by decide +kernel
def eX3_mend_4 : List xI := [(.iload_n 1, 1, 0, 0, 0), (.iconst 1, 1, 0, 0, (1))]
theorem kX3_mend_4 : xcode (xmb mX3_mend) (xmo mX3_mend) 4 eX3_mend_4 = true := by decide +kernel
def eX3_mend_9 : List xI := [(.aload_n 0, 1, 0, 0, 0), (.bipush (-2), 2, 0, 0, (-2))]
theorem kX3_mend_9 : xcode (xmb mX3_mend) (xmo mX3_mend) 9 eX3_mend_9 = true := by decide +kernel
def wX3_mend_130 (p1 : Int32) (Q : Int32 → xM → Prop) (M : xM) (s0 : Int32) : Prop :=
    Q s0 M
set_option maxHeartbeats 4000000 in
set_option maxRecDepth 100000 in
theorem tX3_mend_130 {l : Launch} {E : xE} {p1 : Int32} {Q : Int32 → xM → Prop} (M : xM) (s0 : Int32) (h : wX3_mend_130 p1 Q M s0) : Gx l E mX3_mend (xRi Q) 130 M [none, none, none, none, none] [.int s0] := by
  unfold wX3_mend_130 at h
  exact Gx_iret (by decide +kernel) rfl rfl ⟨_, rfl, h⟩
def wX3_mend_125 (p1 : Int32) (Q : Int32 → xM → Prop) (M : xM) (a3 : Int32) : Prop :=
    wX3_mend_130 p1 Q M a3
set_option maxHeartbeats 4000000 in
set_option maxRecDepth 100000 in
theorem tX3_mend_125 {l : Launch} {E : xE} {p1 : Int32} {Q : Int32 → xM → Prop} (M : xM) (a3 : Int32) (h : wX3_mend_125 p1 Q M a3) : Gx l E mX3_mend (xRi Q) 125 M [none, none, none, some (.int a3), none] [] := by
  unfold wX3_mend_125 at h
  refine Gx_run (es := eX3_mend_125) (P := []) (M' := M) (L' := [none, none, none, some (.int a3), none]) (st' := [.int a3]) (pc' := 126) kX3_mend_125 rfl trivial rfl ?_
  refine Gx_goto (off := 4) (tgt := 130) (by decide +kernel) (by decide) ?_
  refine Gx_mask [false, false, false, false, false] (L' := [none, none, none, none, none]) rfl ?_
  exact tX3_mend_130  M a3 h
def wX3_mend_109 (p1 : Int32) (Q : Int32 → xM → Prop) (k45 : xM → Int32 → Int32 → Int32 → Prop) (M : xM) (a2 : Int32) (a3 : Int32) (a4 : Int32) : Prop :=
    k45 M a2 a3 (a4 + (1 : Int32))
set_option maxHeartbeats 4000000 in
set_option maxRecDepth 100000 in
theorem tX3_mend_109 {l : Launch} {E : xE} {p1 : Int32} {Q : Int32 → xM → Prop} {k45 : xM → Int32 → Int32 → Int32 → Prop} (hk45 : ∀ (M : xM) (a2 : Int32) (a3 : Int32) (a4 : Int32), k45 M a2 a3 a4 → Gx l E mX3_mend (xRi Q) 45 M [some (.ref 0), some (.int p1), some (.int a2), some (.int a3), some (.int a4)] []) (M : xM) (a2 : Int32) (a3 : Int32) (a4 : Int32) (h : wX3_mend_109 p1 Q k45 M a2 a3 a4) : Gx l E mX3_mend (xRi Q) 109 M [some (.ref 0), some (.int p1), some (.int a2), some (.int a3), some (.int a4)] [] := by
  unfold wX3_mend_109 at h
  refine Gx_run (es := eX3_mend_109) (P := []) (M' := M) (L' := [some (.ref 0), some (.int p1), some (.int a2), some (.int a3), some (.int (a4 + (1 : Int32)))]) (st' := []) (pc' := 112) kX3_mend_109 rfl trivial rfl ?_
  refine Gx_goto (off := -67) (tgt := 45) (by decide +kernel) (by decide) ?_
  refine Gx_mask [true, true, true, true, true] (L' := [some (.ref 0), some (.int p1), some (.int a2), some (.int a3), some (.int (a4 + (1 : Int32)))]) rfl ?_
  exact hk45 M a2 a3 (a4 + (1 : Int32)) h
def lX3_mend_45 (p1 : Int32) (Q : Int32 → xM → Prop) : Nat → xM → Int32 → Int32 → Int32 → Prop
  | 0 => fun _ _ _ _ => False
  | n + 1 => let k45 := lX3_mend_45 p1 Q n; fun M a2 a3 a4 =>
    ((((10 : Int32) ≤ a4) → ((((p1 = 0) → (wX3_mend_125 p1 Q M a3)) ∧ ((¬ p1 = 0) → ((((¬ a3 = (-9 : Int32)) → (wX3_mend_130 p1 Q M a2)) ∧ ((a3 = (-9 : Int32)) → (wX3_mend_125 p1 Q M a3)))))))) ∧ ((¬ (10 : Int32) ≤ a4) → (wX2_takeFrom M 8 1 (fun M60 => wX2_wipe M60 8 a4 (fun M69 => wX0_run M69 22 8 (M69 0 11) (fun M84 => (((a2 ≤ (M84 22 4)) → (wX3_mend_109 p1 Q k45 M84 a2 a3 a4)) ∧ ((¬ a2 ≤ (M84 22 4)) → (wX3_mend_109 p1 Q k45 M84 (M84 22 4) a4 a4)))))))))
set_option maxHeartbeats 4000000 in
set_option maxRecDepth 100000 in
theorem tX3_mend_45 {l : Launch} {E : xE} {p1 : Int32} {Q : Int32 → xM → Prop} (n : Nat) : ∀ (M : xM) (a2 : Int32) (a3 : Int32) (a4 : Int32), lX3_mend_45 p1 Q n M a2 a3 a4 → Gx l E mX3_mend (xRi Q) 45 M [some (.ref 0), some (.int p1), some (.int a2), some (.int a3), some (.int a4)] [] := by
  induction n with
  | zero => intro M a2 a3 a4 h; exact h.elim
  | succ n hk45 =>
      intro M a2 a3 a4 h
      unfold lX3_mend_45 at h
      dsimp only at h
      refine Gx_run (es := eX3_mend_45) (P := []) (M' := M) (L' := [some (.ref 0), some (.int p1), some (.int a2), some (.int a3), some (.int a4)]) (st' := [.int (10 : Int32), .int a4]) (pc' := 49) kX3_mend_45 rfl trivial rfl ?_
      refine Gx_icmp_ge (off := 66) (tgt := 115) (by decide +kernel) (by decide) (fun z => ?_) (fun z => ?_)
      · have h := h.1 z
        refine Gx_run (es := eX3_mend_115) (P := []) (M' := M) (L' := [some (.ref 0), some (.int p1), some (.int a2), some (.int a3), some (.int a4)]) (st' := [.int p1]) (pc' := 116) kX3_mend_115 rfl trivial rfl ?_
        refine Gx_if_eq (off := 9) (tgt := 125) (by decide +kernel) (by decide) (fun z => ?_) (fun z => ?_)
        · have h := h.1 z
          refine Gx_mask [false, false, false, true, false] (L' := [none, none, none, some (.int a3), none]) rfl ?_
          exact tX3_mend_125  M a3 h
        · have h := h.2 z
          refine Gx_run (es := eX3_mend_119) (P := []) (M' := M) (L' := [some (.ref 0), some (.int p1), some (.int a2), some (.int a3), some (.int a4)]) (st' := [.int (-9 : Int32), .int a3]) (pc' := 122) kX3_mend_119 rfl trivial rfl ?_
          refine Gx_icmp_ne (off := 7) (tgt := 129) (by decide +kernel) (by decide) (fun z => ?_) (fun z => ?_)
          · have h := h.1 z
            refine Gx_run (es := eX3_mend_129) (P := []) (M' := M) (L' := [some (.ref 0), some (.int p1), some (.int a2), some (.int a3), some (.int a4)]) (st' := [.int a2]) (pc' := 130) kX3_mend_129 rfl trivial rfl ?_
            refine Gx_mask [false, false, false, false, false] (L' := [none, none, none, none, none]) rfl ?_
            exact tX3_mend_130  M a2 h
          · have h := h.2 z
            refine Gx_mask [false, false, false, true, false] (L' := [none, none, none, some (.int a3), none]) rfl ?_
            exact tX3_mend_125  M a3 h
      · have h := h.2 z
        refine Gx_run (es := eX3_mend_52) (P := [xkd 0 = 3, xkd 0 = 3]) (M' := M) (L' := [some (.ref 0), some (.int p1), some (.int a2), some (.int a3), some (.int a4)]) (st' := [.ref 1, .ref 8]) (pc' := 60) kX3_mend_52 rfl ⟨rfl, rfl, trivial⟩ rfl ?_
        refine Gx_callV (As := [.ref 1]) (by decide +kernel) ml_3_140 okX2_takeFrom mvX2_takeFrom rfl (by decide) (Nat.le_of_ble_eq_true rfl) rfl rfl rfl (tX2_takeFrom xVol_at8 xVol_at1 h) (fun rr M60 qq => ?_)
        obtain ⟨rfl, h⟩ := qq
        show Gx l E mX3_mend _ 63 M60 [some (.ref 0), some (.int p1), some (.int a2), some (.int a3), some (.int a4)] []
        refine Gx_run (es := eX3_mend_63) (P := [xkd 0 = 3]) (M' := M60) (L' := [some (.ref 0), some (.int p1), some (.int a2), some (.int a3), some (.int a4)]) (st' := [.int a4, .ref 8]) (pc' := 69) kX3_mend_63 rfl ⟨rfl, trivial⟩ rfl ?_
        refine Gx_callV (As := [.int a4]) (by decide +kernel) ml_3_192 okX2_wipe mvX2_wipe rfl (by decide) (Nat.le_of_ble_eq_true rfl) rfl rfl rfl (tX2_wipe xVol_at8 h) (fun rr M69 qq => ?_)
        obtain ⟨rfl, h⟩ := qq
        show Gx l E mX3_mend _ 72 M69 [some (.ref 0), some (.int p1), some (.int a2), some (.int a3), some (.int a4)] []
        refine Gx_run (es := eX3_mend_72) (P := [xkd 0 = 3, xkd 0 = 3, xkd 0 = 3]) (M' := M69) (L' := [some (.ref 0), some (.int p1), some (.int a2), some (.int a3), some (.int a4)]) (st' := [.int (M69 0 11), .ref 8, .ref 22]) (pc' := 84) kX3_mend_72 rfl ⟨rfl, rfl, rfl, trivial⟩ rfl ?_
        refine Gx_callV (As := [.ref 8, .int (M69 0 11)]) (by decide +kernel) ml_3_133 okX0_run mvX0_run rfl (by decide) (Nat.le_of_ble_eq_true rfl) rfl rfl rfl (tX0_run xChk_at22 xVol_at8 h) (fun rr M84 qq => ?_)
        obtain ⟨rfl, h⟩ := qq
        show Gx l E mX3_mend _ 87 M84 [some (.ref 0), some (.int p1), some (.int a2), some (.int a3), some (.int a4)] []
        refine Gx_run (es := eX3_mend_87) (P := [xkd 0 = 3, xkd 22 = 0]) (M' := M84) (L' := [some (.ref 0), some (.int p1), some (.int a2), some (.int a3), some (.int a4)]) (st' := [.int a2, .int (M84 22 4)]) (pc' := 95) kX3_mend_87 rfl ⟨rfl, rfl, trivial⟩ rfl ?_
        refine Gx_icmp_ge (off := 14) (tgt := 109) (by decide +kernel) (by decide) (fun z => ?_) (fun z => ?_)
        · have h := h.1 z
          refine Gx_mask [true, true, true, true, true] (L' := [some (.ref 0), some (.int p1), some (.int a2), some (.int a3), some (.int a4)]) rfl ?_
          exact tX3_mend_109  hk45 M84 a2 a3 a4 h
        · have h := h.2 z
          refine Gx_run (es := eX3_mend_98) (P := [xkd 0 = 3, xkd 22 = 0]) (M' := M84) (L' := [some (.ref 0), some (.int p1), some (.int (M84 22 4)), some (.int a4), some (.int a4)]) (st' := []) (pc' := 109) kX3_mend_98 rfl ⟨rfl, rfl, trivial⟩ rfl ?_
          refine Gx_mask [true, true, true, true, true] (L' := [some (.ref 0), some (.int p1), some (.int (M84 22 4)), some (.int a4), some (.int a4)]) rfl ?_
          exact tX3_mend_109  hk45 M84 (M84 22 4) a4 a4 h
def wX3_mend_16 (p1 : Int32) (Q : Int32 → xM → Prop) (M : xM) : Prop :=
    wX0_run M 22 1 (M 0 11) (fun M28 => (∃ n : Nat, lX3_mend_45 p1 Q n M28 (M28 22 4) (-9 : Int32) (1 : Int32)))
set_option maxHeartbeats 4000000 in
set_option maxRecDepth 100000 in
theorem tX3_mend_16 {l : Launch} {E : xE} {p1 : Int32} {Q : Int32 → xM → Prop} (M : xM) (h : wX3_mend_16 p1 Q M ) : Gx l E mX3_mend (xRi Q) 16 M [some (.ref 0), some (.int p1), none, none, none] [] := by
  unfold wX3_mend_16 at h
  refine Gx_run (es := eX3_mend_16) (P := [xkd 0 = 3, xkd 0 = 3, xkd 0 = 3]) (M' := M) (L' := [some (.ref 0), some (.int p1), none, none, none]) (st' := [.int (M 0 11), .ref 1, .ref 22]) (pc' := 28) kX3_mend_16 rfl ⟨rfl, rfl, rfl, trivial⟩ rfl ?_
  refine Gx_callV (As := [.ref 1, .int (M 0 11)]) (by decide +kernel) ml_3_133 okX0_run mvX0_run rfl (by decide) (Nat.le_of_ble_eq_true rfl) rfl rfl rfl (tX0_run xChk_at22 xVol_at1 h) (fun rr M28 qq => ?_)
  obtain ⟨rfl, h⟩ := qq
  show Gx l E mX3_mend _ 31 M28 [some (.ref 0), some (.int p1), none, none, none] []
  refine Gx_run (es := eX3_mend_31) (P := [xkd 0 = 3, xkd 22 = 0]) (M' := M28) (L' := [some (.ref 0), some (.int p1), some (.int (M28 22 4)), some (.int (-9 : Int32)), some (.int (1 : Int32))]) (st' := []) (pc' := 45) kX3_mend_31 rfl ⟨rfl, rfl, trivial⟩ rfl ?_
  refine Gx_mask [true, true, true, true, true] (L' := [some (.ref 0), some (.int p1), some (.int (M28 22 4)), some (.int (-9 : Int32)), some (.int (1 : Int32))]) rfl ?_
  obtain ⟨n, h⟩ := h
  exact tX3_mend_45  n M28 (M28 22 4) (-9 : Int32) (1 : Int32) h
def wX3_mend (M : xM) (p1 : Int32) (Q : Int32 → xM → Prop) : Prop :=
    (((p1 = 0) → (wX3_mend_16 p1 Q M)) ∧ ((¬ p1 = 0) → ((((p1 = (1 : Int32)) → (wX3_mend_16 p1 Q M)) ∧ ((¬ p1 = (1 : Int32)) → (wX3_refusal M (-2 : Int32) (fun r12 M12 => Q r12 M12)))))))
set_option maxHeartbeats 4000000 in
set_option maxRecDepth 100000 in
theorem tX3_mend {l : Launch} {E : xE} {M : xM} {p1 : Int32} {Q : Int32 → xM → Prop} (h : wX3_mend M p1 Q) : Ct l E mX3_mend [.ref 0, .int p1] M (xRi Q) := by
  refine Ct_of (by decide +kernel) rfl (Nat.le_of_ble_eq_true rfl) ?_
  unfold wX3_mend at h
  show Gx l E mX3_mend (xRi Q) 0 M [some (.ref 0), some (.int p1), none, none, none] []
  refine Gx_run (es := eX3_mend_0) (P := []) (M' := M) (L' := [some (.ref 0), some (.int p1), none, none, none]) (st' := [.int p1]) (pc' := 1) kX3_mend_0 rfl trivial rfl ?_
  refine Gx_if_eq (off := 15) (tgt := 16) (by decide +kernel) (by decide) (fun z => ?_) (fun z => ?_)
  · have h := h.1 z
    refine Gx_mask [true, true, false, false, false] (L' := [some (.ref 0), some (.int p1), none, none, none]) rfl ?_
    exact tX3_mend_16  M h
  · have h := h.2 z
    refine Gx_run (es := eX3_mend_4) (P := []) (M' := M) (L' := [some (.ref 0), some (.int p1), none, none, none]) (st' := [.int (1 : Int32), .int p1]) (pc' := 6) kX3_mend_4 rfl trivial rfl ?_
    refine Gx_icmp_eq (off := 10) (tgt := 16) (by decide +kernel) (by decide) (fun z => ?_) (fun z => ?_)
    · have h := h.1 z
      refine Gx_mask [true, true, false, false, false] (L' := [some (.ref 0), some (.int p1), none, none, none]) rfl ?_
      exact tX3_mend_16  M h
    · have h := h.2 z
      refine Gx_run (es := eX3_mend_9) (P := []) (M' := M) (L' := [some (.ref 0), some (.int p1), none, none, none]) (st' := [.int (-2 : Int32), .ref 0]) (pc' := 12) kX3_mend_9 rfl trivial rfl ?_
      refine Gx_callV (As := [.int (-2 : Int32)]) (by decide +kernel) ml_3_63 okX3_refusal mvX3_refusal rfl (by decide) (Nat.le_of_ble_eq_true rfl) rfl rfl rfl (tX3_refusal h) (fun rr M12 qq => ?_)
      obtain ⟨r12, rfl, h⟩ := qq
      show Gx l E mX3_mend _ 15 M12 [some (.ref 0), some (.int p1), none, none, none] [.int r12]
      exact Gx_iret (by decide +kernel) rfl rfl ⟨_, rfl, h⟩
def eX3_pointerThen_0 : List xI := [(.iload_n 1, 1, 0, 0, 0), (.bipush 10, 2, 0, 0, (10))]
theorem kX3_pointerThen_0 : xcode (xmb mX3_pointerThen) (xmo mX3_pointerThen) 0 eX3_pointerThen_0 = true := by decide +kernel
def eX3_pointerThen_17 : List xI := [(.aload_n 0, 1, 0, 0, 0), (.iconst (-1), 1, 0, 0, (-1))]
theorem kX3_pointerThen_17 : xcode (xmb mX3_pointerThen) (xmo mX3_pointerThen) 17 eX3_pointerThen_17 = true := by decide +kernel
def eX3_pointerThen_9 : List xI := [(.iload_n 2, 1, 0, 0, 0), (.iconst 3, 1, 0, 0, (3))]
theorem kX3_pointerThen_9 : xcode (xmb mX3_pointerThen) (xmo mX3_pointerThen) 9 eX3_pointerThen_9 = true := by decide +kernel
def eX3_pointerThen_23 : List xI := [(.aload_n 0, 1, 0, 0, 0), (.getfield 33, 3, 3, 5, 0), (.aload_n 0, 1, 0, 0, 0), (.getfield 10, 3, 3, 0, 0), (.aload_n 0, 1, 0, 0, 0), (.getfield 57, 3, 3, 11, 0)]
theorem kX3_pointerThen_23 : xcode (xmb mX3_pointerThen) (xmo mX3_pointerThen) 23 eX3_pointerThen_23 = true := by decide +kernel
def eX3_pointerThen_38 : List xI := [(.aload_n 0, 1, 0, 0, 0), (.getfield 33, 3, 3, 5, 0), (.getfield 137, 3, 0, 0, 0), (.getfield 109, 3, 2, 3, 0), (.iconst 3, 1, 0, 0, (3)), (.iload_n 1, 1, 0, 0, 0), (.imul, 1, 0, 0, 0), (.iload_n 2, 1, 0, 0, 0), (.iadd, 1, 0, 0, 0), (.iaload, 1, 0, 0, 0)]
theorem kX3_pointerThen_38 : xcode (xmb mX3_pointerThen) (xmo mX3_pointerThen) 38 eX3_pointerThen_38 = true := by decide +kernel
def wX3_pointerThen_17 (p1 : Int32) (p2 : Int32) (Q : Int32 → xM → Prop) (M : xM) : Prop :=
    wX3_refusal M (-1 : Int32) (fun r19 M19 => Q r19 M19)
set_option maxHeartbeats 4000000 in
set_option maxRecDepth 100000 in
theorem tX3_pointerThen_17 {l : Launch} {E : xE} {p1 : Int32} {p2 : Int32} {Q : Int32 → xM → Prop} (M : xM) (h : wX3_pointerThen_17 p1 p2 Q M ) : Gx l E mX3_pointerThen (xRi Q) 17 M [some (.ref 0), none, none] [] := by
  unfold wX3_pointerThen_17 at h
  refine Gx_run (es := eX3_pointerThen_17) (P := []) (M' := M) (L' := [some (.ref 0), none, none]) (st' := [.int (-1 : Int32), .ref 0]) (pc' := 19) kX3_pointerThen_17 rfl trivial rfl ?_
  refine Gx_callV (As := [.int (-1 : Int32)]) (by decide +kernel) ml_3_63 okX3_refusal mvX3_refusal rfl (by decide) (Nat.le_of_ble_eq_true rfl) rfl rfl rfl (tX3_refusal h) (fun rr M19 qq => ?_)
  obtain ⟨r19, rfl, h⟩ := qq
  show Gx l E mX3_pointerThen _ 22 M19 [some (.ref 0), none, none] [.int r19]
  exact Gx_iret (by decide +kernel) rfl rfl ⟨_, rfl, h⟩
def wX3_pointerThen (M : xM) (p1 : Int32) (p2 : Int32) (Q : Int32 → xM → Prop) : Prop :=
    wX3_isOutside M p1 (10 : Int32) (fun r3 M3 => (((¬ r3 = 0) → (wX3_pointerThen_17 p1 p2 Q M3)) ∧ ((r3 = 0) → (wX3_isOutside M3 p2 (3 : Int32) (fun r11 M11 => (((r11 = 0) → (wX0_run M11 22 1 (M11 0 11) (fun M35 => (vp_in (((3 : Int32) * p1) + p2) 30) ∧ Q (M35 27 (((3 : Int32) * p1) + p2).toNatClampNeg) M35))) ∧ ((¬ r11 = 0) → (wX3_pointerThen_17 p1 p2 Q M11))))))))
set_option maxHeartbeats 4000000 in
set_option maxRecDepth 100000 in
theorem tX3_pointerThen {l : Launch} {E : xE} {M : xM} {p1 : Int32} {p2 : Int32} {Q : Int32 → xM → Prop} (h : wX3_pointerThen M p1 p2 Q) : Ct l E mX3_pointerThen [.ref 0, .int p1, .int p2] M (xRi Q) := by
  refine Ct_of (by decide +kernel) rfl (Nat.le_of_ble_eq_true rfl) ?_
  unfold wX3_pointerThen at h
  show Gx l E mX3_pointerThen (xRi Q) 0 M [some (.ref 0), some (.int p1), some (.int p2)] []
  refine Gx_run (es := eX3_pointerThen_0) (P := []) (M' := M) (L' := [some (.ref 0), some (.int p1), some (.int p2)]) (st' := [.int (10 : Int32), .int p1]) (pc' := 3) kX3_pointerThen_0 rfl trivial rfl ?_
  refine Gx_callS (As := [.int p1, .int (10 : Int32)]) (by decide +kernel) ml_3_84 okX3_isOutside mvX3_isOutside rfl (by decide) (Nat.le_of_ble_eq_true rfl) (tX3_isOutside h) (fun rr M3 qq => ?_)
  obtain ⟨r3, rfl, h⟩ := qq
  show Gx l E mX3_pointerThen _ 6 M3 [some (.ref 0), some (.int p1), some (.int p2)] [.int r3]
  refine Gx_if_ne (off := 11) (tgt := 17) (by decide +kernel) (by decide) (fun z => ?_) (fun z => ?_)
  · have h := h.1 z
    refine Gx_mask [true, false, false] (L' := [some (.ref 0), none, none]) rfl ?_
    exact tX3_pointerThen_17  M3 h
  · have h := h.2 z
    refine Gx_run (es := eX3_pointerThen_9) (P := []) (M' := M3) (L' := [some (.ref 0), some (.int p1), some (.int p2)]) (st' := [.int (3 : Int32), .int p2]) (pc' := 11) kX3_pointerThen_9 rfl trivial rfl ?_
    refine Gx_callS (As := [.int p2, .int (3 : Int32)]) (by decide +kernel) ml_3_84 okX3_isOutside mvX3_isOutside rfl (by decide) (Nat.le_of_ble_eq_true rfl) (tX3_isOutside h) (fun rr M11 qq => ?_)
    obtain ⟨r11, rfl, h⟩ := qq
    show Gx l E mX3_pointerThen _ 14 M11 [some (.ref 0), some (.int p1), some (.int p2)] [.int r11]
    refine Gx_if_eq (off := 9) (tgt := 23) (by decide +kernel) (by decide) (fun z => ?_) (fun z => ?_)
    · have h := h.1 z
      refine Gx_run (es := eX3_pointerThen_23) (P := [xkd 0 = 3, xkd 0 = 3, xkd 0 = 3]) (M' := M11) (L' := [some (.ref 0), some (.int p1), some (.int p2)]) (st' := [.int (M11 0 11), .ref 1, .ref 22]) (pc' := 35) kX3_pointerThen_23 rfl ⟨rfl, rfl, rfl, trivial⟩ rfl ?_
      refine Gx_callV (As := [.ref 1, .int (M11 0 11)]) (by decide +kernel) ml_3_133 okX0_run mvX0_run rfl (by decide) (Nat.le_of_ble_eq_true rfl) rfl rfl rfl (tX0_run xChk_at22 xVol_at1 h) (fun rr M35 qq => ?_)
      obtain ⟨rfl, h⟩ := qq
      show Gx l E mX3_pointerThen _ 38 M35 [some (.ref 0), some (.int p1), some (.int p2)] []
      obtain ⟨g38_0, h⟩ := h
      refine Gx_run (es := eX3_pointerThen_38) (P := [xkd 0 = 3, xkd 22 = 0, xkd 23 = 2, xkd 27 = 5, vp_in (((3 : Int32) * p1) + p2) (xln 27)]) (M' := M35) (L' := [some (.ref 0), some (.int p1), some (.int p2)]) (st' := [.int (M35 27 (((3 : Int32) * p1) + p2).toNatClampNeg)]) (pc' := 54) kX3_pointerThen_38 rfl ⟨rfl, rfl, rfl, rfl, g38_0, trivial⟩ rfl ?_
      exact Gx_iret (by decide +kernel) rfl rfl ⟨_, rfl, h⟩
    · have h := h.2 z
      refine Gx_mask [true, false, false] (L' := [some (.ref 0), none, none]) rfl ?_
      exact tX3_pointerThen_17  M11 h
def eX3_question_0 : List xI := [(.iload_n 2, 1, 0, 0, 0), (.iconst 3, 1, 0, 0, (3))]
theorem kX3_question_0 : xcode (xmb mX3_question) (xmo mX3_question) 0 eX3_question_0 = true := by decide +kernel
def eX3_question_15 : List xI := [(.aload_n 0, 1, 0, 0, 0), (.getfield 33, 3, 3, 5, 0), (.aload_n 0, 1, 0, 0, 0), (.getfield 10, 3, 3, 0, 0), (.aload_n 0, 1, 0, 0, 0), (.getfield 57, 3, 3, 11, 0)]
theorem kX3_question_15 : xcode (xmb mX3_question) (xmo mX3_question) 15 eX3_question_15 = true := by decide +kernel
def eX3_question_30 : List xI := [(.iload_n 1, 1, 0, 0, 0), (.aload_n 0, 1, 0, 0, 0), (.getfield 33, 3, 3, 5, 0), (.getfield 144, 3, 0, 4, 0)]
theorem kX3_question_30 : xcode (xmb mX3_question) (xmo mX3_question) 30 eX3_question_30 = true := by decide +kernel
def eX3_question_50 : List xI := [(.iload_n 2, 1, 0, 0, 0)]
theorem kX3_question_50 : xcode (xmb mX3_question) (xmo mX3_question) 50 eX3_question_50 = true := by decide +kernel
def eX3_question_64 : List xI := [(.iload_n 2, 1, 0, 0, 0), (.iconst 1, 1, 0, 0, (1))]
theorem kX3_question_64 : xcode (xmb mX3_question) (xmo mX3_question) 64 eX3_question_64 = true := by decide +kernel
def eX3_question_81 : List xI := [(.aload_n 0, 1, 0, 0, 0), (.getfield 33, 3, 3, 5, 0), (.getfield 156, 3, 0, 3, 0), (.iload_n 1, 1, 0, 0, 0), (.iaload, 1, 0, 0, 0)]
theorem kX3_question_81 : xcode (xmb mX3_question) (xmo mX3_question) 81 eX3_question_81 = true := by decide +kernel
def eX3_question_69 : List xI := [(.aload_n 0, 1, 0, 0, 0), (.getfield 33, 3, 3, 5, 0), (.getfield 153, 3, 0, 2, 0), (.iload_n 1, 1, 0, 0, 0), (.iaload, 1, 0, 0, 0)]
theorem kX3_question_69 : xcode (xmb mX3_question) (xmo mX3_question) 69 eX3_question_69 = true := by decide +kernel
def eX3_question_54 : List xI := [(.aload_n 0, 1, 0, 0, 0), (.getfield 33, 3, 3, 5, 0), (.getfield 150, 3, 0, 1, 0), (.iload_n 1, 1, 0, 0, 0), (.iaload, 1, 0, 0, 0)]
theorem kX3_question_54 : xcode (xmb mX3_question) (xmo mX3_question) 54 eX3_question_54 = true := by decide +kernel
def eX3_question_44 : List xI := [(.aload_n 0, 1, 0, 0, 0), (.iconst (-1), 1, 0, 0, (-1))]
theorem kX3_question_44 : xcode (xmb mX3_question) (xmo mX3_question) 44 eX3_question_44 = true := by decide +kernel
def eX3_question_8 : List xI := [(.aload_n 0, 1, 0, 0, 0), (.bipush (-2), 2, 0, 0, (-2))]
theorem kX3_question_8 : xcode (xmb mX3_question) (xmo mX3_question) 8 eX3_question_8 = true := by decide +kernel
def wX3_question_90 (p1 : Int32) (p2 : Int32) (Q : Int32 → xM → Prop) (M : xM) (s0 : Int32) : Prop :=
    Q s0 M
set_option maxHeartbeats 4000000 in
set_option maxRecDepth 100000 in
theorem tX3_question_90 {l : Launch} {E : xE} {p1 : Int32} {p2 : Int32} {Q : Int32 → xM → Prop} (M : xM) (s0 : Int32) (h : wX3_question_90 p1 p2 Q M s0) : Gx l E mX3_question (xRi Q) 90 M [none, none, none] [.int s0] := by
  unfold wX3_question_90 at h
  exact Gx_iret (by decide +kernel) rfl rfl ⟨_, rfl, h⟩
def wX3_question (M : xM) (p1 : Int32) (p2 : Int32) (Q : Int32 → xM → Prop) : Prop :=
    wX3_isOutside M p2 (3 : Int32) (fun r2 M2 => (((r2 = 0) → (wX0_run M2 22 1 (M2 0 11) (fun M27 => wX3_isOutside M27 p1 (M27 22 4) (fun r38 M38 => (((r38 = 0) → ((((¬ p2 = 0) → ((((¬ p2 = (1 : Int32)) → ((vp_in p1 180) ∧ wX3_question_90 p1 p2 Q M38 (M38 32 p1.toNatClampNeg))) ∧ ((p2 = (1 : Int32)) → ((vp_in p1 180) ∧ wX3_question_90 p1 p2 Q M38 (M38 31 p1.toNatClampNeg)))))) ∧ ((p2 = 0) → ((vp_in p1 180) ∧ Q (M38 30 p1.toNatClampNeg) M38))))) ∧ ((¬ r38 = 0) → (wX3_refusal M38 (-1 : Int32) (fun r46 M46 => Q r46 M46)))))))) ∧ ((¬ r2 = 0) → (wX3_refusal M2 (-2 : Int32) (fun r11 M11 => Q r11 M11)))))
set_option maxHeartbeats 4000000 in
set_option maxRecDepth 100000 in
theorem tX3_question {l : Launch} {E : xE} {M : xM} {p1 : Int32} {p2 : Int32} {Q : Int32 → xM → Prop} (h : wX3_question M p1 p2 Q) : Ct l E mX3_question [.ref 0, .int p1, .int p2] M (xRi Q) := by
  refine Ct_of (by decide +kernel) rfl (Nat.le_of_ble_eq_true rfl) ?_
  unfold wX3_question at h
  show Gx l E mX3_question (xRi Q) 0 M [some (.ref 0), some (.int p1), some (.int p2)] []
  refine Gx_run (es := eX3_question_0) (P := []) (M' := M) (L' := [some (.ref 0), some (.int p1), some (.int p2)]) (st' := [.int (3 : Int32), .int p2]) (pc' := 2) kX3_question_0 rfl trivial rfl ?_
  refine Gx_callS (As := [.int p2, .int (3 : Int32)]) (by decide +kernel) ml_3_84 okX3_isOutside mvX3_isOutside rfl (by decide) (Nat.le_of_ble_eq_true rfl) (tX3_isOutside h) (fun rr M2 qq => ?_)
  obtain ⟨r2, rfl, h⟩ := qq
  show Gx l E mX3_question _ 5 M2 [some (.ref 0), some (.int p1), some (.int p2)] [.int r2]
  refine Gx_if_eq (off := 10) (tgt := 15) (by decide +kernel) (by decide) (fun z => ?_) (fun z => ?_)
  · have h := h.1 z
    refine Gx_run (es := eX3_question_15) (P := [xkd 0 = 3, xkd 0 = 3, xkd 0 = 3]) (M' := M2) (L' := [some (.ref 0), some (.int p1), some (.int p2)]) (st' := [.int (M2 0 11), .ref 1, .ref 22]) (pc' := 27) kX3_question_15 rfl ⟨rfl, rfl, rfl, trivial⟩ rfl ?_
    refine Gx_callV (As := [.ref 1, .int (M2 0 11)]) (by decide +kernel) ml_3_133 okX0_run mvX0_run rfl (by decide) (Nat.le_of_ble_eq_true rfl) rfl rfl rfl (tX0_run xChk_at22 xVol_at1 h) (fun rr M27 qq => ?_)
    obtain ⟨rfl, h⟩ := qq
    show Gx l E mX3_question _ 30 M27 [some (.ref 0), some (.int p1), some (.int p2)] []
    refine Gx_run (es := eX3_question_30) (P := [xkd 0 = 3, xkd 22 = 0]) (M' := M27) (L' := [some (.ref 0), some (.int p1), some (.int p2)]) (st' := [.int (M27 22 4), .int p1]) (pc' := 38) kX3_question_30 rfl ⟨rfl, rfl, trivial⟩ rfl ?_
    refine Gx_callS (As := [.int p1, .int (M27 22 4)]) (by decide +kernel) ml_3_84 okX3_isOutside mvX3_isOutside rfl (by decide) (Nat.le_of_ble_eq_true rfl) (tX3_isOutside h) (fun rr M38 qq => ?_)
    obtain ⟨r38, rfl, h⟩ := qq
    show Gx l E mX3_question _ 41 M38 [some (.ref 0), some (.int p1), some (.int p2)] [.int r38]
    refine Gx_if_eq (off := 9) (tgt := 50) (by decide +kernel) (by decide) (fun z => ?_) (fun z => ?_)
    · have h := h.1 z
      refine Gx_run (es := eX3_question_50) (P := []) (M' := M38) (L' := [some (.ref 0), some (.int p1), some (.int p2)]) (st' := [.int p2]) (pc' := 51) kX3_question_50 rfl trivial rfl ?_
      refine Gx_if_ne (off := 13) (tgt := 64) (by decide +kernel) (by decide) (fun z => ?_) (fun z => ?_)
      · have h := h.1 z
        refine Gx_run (es := eX3_question_64) (P := []) (M' := M38) (L' := [some (.ref 0), some (.int p1), some (.int p2)]) (st' := [.int (1 : Int32), .int p2]) (pc' := 66) kX3_question_64 rfl trivial rfl ?_
        refine Gx_icmp_ne (off := 15) (tgt := 81) (by decide +kernel) (by decide) (fun z => ?_) (fun z => ?_)
        · have h := h.1 z
          obtain ⟨g81_0, h⟩ := h
          refine Gx_run (es := eX3_question_81) (P := [xkd 0 = 3, xkd 22 = 0, xkd 32 = 5, vp_in p1 (xln 32)]) (M' := M38) (L' := [some (.ref 0), some (.int p1), some (.int p2)]) (st' := [.int (M38 32 p1.toNatClampNeg)]) (pc' := 90) kX3_question_81 rfl ⟨rfl, rfl, rfl, g81_0, trivial⟩ rfl ?_
          refine Gx_mask [false, false, false] (L' := [none, none, none]) rfl ?_
          exact tX3_question_90  M38 (M38 32 p1.toNatClampNeg) h
        · have h := h.2 z
          obtain ⟨g69_0, h⟩ := h
          refine Gx_run (es := eX3_question_69) (P := [xkd 0 = 3, xkd 22 = 0, xkd 31 = 5, vp_in p1 (xln 31)]) (M' := M38) (L' := [some (.ref 0), some (.int p1), some (.int p2)]) (st' := [.int (M38 31 p1.toNatClampNeg)]) (pc' := 78) kX3_question_69 rfl ⟨rfl, rfl, rfl, g69_0, trivial⟩ rfl ?_
          refine Gx_goto (off := 12) (tgt := 90) (by decide +kernel) (by decide) ?_
          refine Gx_mask [false, false, false] (L' := [none, none, none]) rfl ?_
          exact tX3_question_90  M38 (M38 31 p1.toNatClampNeg) h
      · have h := h.2 z
        obtain ⟨g54_0, h⟩ := h
        refine Gx_run (es := eX3_question_54) (P := [xkd 0 = 3, xkd 22 = 0, xkd 30 = 5, vp_in p1 (xln 30)]) (M' := M38) (L' := [some (.ref 0), some (.int p1), some (.int p2)]) (st' := [.int (M38 30 p1.toNatClampNeg)]) (pc' := 63) kX3_question_54 rfl ⟨rfl, rfl, rfl, g54_0, trivial⟩ rfl ?_
        exact Gx_iret (by decide +kernel) rfl rfl ⟨_, rfl, h⟩
    · have h := h.2 z
      refine Gx_run (es := eX3_question_44) (P := []) (M' := M38) (L' := [some (.ref 0), some (.int p1), some (.int p2)]) (st' := [.int (-1 : Int32), .ref 0]) (pc' := 46) kX3_question_44 rfl trivial rfl ?_
      refine Gx_callV (As := [.int (-1 : Int32)]) (by decide +kernel) ml_3_63 okX3_refusal mvX3_refusal rfl (by decide) (Nat.le_of_ble_eq_true rfl) rfl rfl rfl (tX3_refusal h) (fun rr M46 qq => ?_)
      obtain ⟨r46, rfl, h⟩ := qq
      show Gx l E mX3_question _ 49 M46 [some (.ref 0), some (.int p1), some (.int p2)] [.int r46]
      exact Gx_iret (by decide +kernel) rfl rfl ⟨_, rfl, h⟩
  · have h := h.2 z
    refine Gx_run (es := eX3_question_8) (P := []) (M' := M2) (L' := [some (.ref 0), some (.int p1), some (.int p2)]) (st' := [.int (-2 : Int32), .ref 0]) (pc' := 11) kX3_question_8 rfl trivial rfl ?_
    refine Gx_callV (As := [.int (-2 : Int32)]) (by decide +kernel) ml_3_63 okX3_refusal mvX3_refusal rfl (by decide) (Nat.le_of_ble_eq_true rfl) rfl rfl rfl (tX3_refusal h) (fun rr M11 qq => ?_)
    obtain ⟨r11, rfl, h⟩ := qq
    show Gx l E mX3_question _ 14 M11 [some (.ref 0), some (.int p1), some (.int p2)] [.int r11]
    exact Gx_iret (by decide +kernel) rfl rfl ⟨_, rfl, h⟩
def eX3_questions_0 : List xI := [(.iload_n 1, 1, 0, 0, 0), (.bipush 17, 2, 0, 0, (17))]
theorem kX3_questions_0 : xcode (xmb mX3_questions) (xmo mX3_questions) 0 eX3_questions_0 = true := by decide +kernel
def eX3_questions_16 : List xI := [(.aload_n 0, 1, 0, 0, 0), (.getfield 33, 3, 3, 5, 0), (.aload_n 0, 1, 0, 0, 0), (.getfield 10, 3, 3, 0, 0), (.aload_n 0, 1, 0, 0, 0), (.getfield 57, 3, 3, 11, 0)]
theorem kX3_questions_16 : xcode (xmb mX3_questions) (xmo mX3_questions) 16 eX3_questions_16 = true := by decide +kernel
def eX3_questions_31 : List xI := [(.iload_n 1, 1, 0, 0, 0)]
theorem kX3_questions_31 : xcode (xmb mX3_questions) (xmo mX3_questions) 31 eX3_questions_31 = true := by decide +kernel
def eX3_questions_45 : List xI := [(.aload_n 0, 1, 0, 0, 0), (.getfield 33, 3, 3, 5, 0), (.iload_n 1, 1, 0, 0, 0)]
theorem kX3_questions_45 : xcode (xmb mX3_questions) (xmo mX3_questions) 45 eX3_questions_45 = true := by decide +kernel
def eX3_questions_35 : List xI := [(.aload_n 0, 1, 0, 0, 0), (.getfield 33, 3, 3, 5, 0), (.getfield 144, 3, 0, 4, 0)]
theorem kX3_questions_35 : xcode (xmb mX3_questions) (xmo mX3_questions) 35 eX3_questions_35 = true := by decide +kernel
def eX3_questions_9 : List xI := [(.aload_n 0, 1, 0, 0, 0), (.bipush (-2), 2, 0, 0, (-2))]
theorem kX3_questions_9 : xcode (xmb mX3_questions) (xmo mX3_questions) 9 eX3_questions_9 = true := by decide +kernel
def wX3_questions_53 (p1 : Int32) (Q : Int32 → xM → Prop) (M : xM) (s0 : Int32) : Prop :=
    Q s0 M
set_option maxHeartbeats 4000000 in
set_option maxRecDepth 100000 in
theorem tX3_questions_53 {l : Launch} {E : xE} {p1 : Int32} {Q : Int32 → xM → Prop} (M : xM) (s0 : Int32) (h : wX3_questions_53 p1 Q M s0) : Gx l E mX3_questions (xRi Q) 53 M [none, none] [.int s0] := by
  unfold wX3_questions_53 at h
  exact Gx_iret (by decide +kernel) rfl rfl ⟨_, rfl, h⟩
def wX3_questions (M : xM) (p1 : Int32) (Q : Int32 → xM → Prop) : Prop :=
    wX3_isOutside M p1 (17 : Int32) (fun r3 M3 => (((r3 = 0) → (wX0_run M3 22 1 (M3 0 11) (fun M28 => (((¬ p1 = 0) → (wX0_askedFor M28 22 p1 (fun r50 M50 => wX3_questions_53 p1 Q M50 r50))) ∧ ((p1 = 0) → (wX3_questions_53 p1 Q M28 (M28 22 4))))))) ∧ ((¬ r3 = 0) → (wX3_refusal M3 (-2 : Int32) (fun r12 M12 => Q r12 M12)))))
set_option maxHeartbeats 4000000 in
set_option maxRecDepth 100000 in
theorem tX3_questions {l : Launch} {E : xE} {M : xM} {p1 : Int32} {Q : Int32 → xM → Prop} (h : wX3_questions M p1 Q) : Ct l E mX3_questions [.ref 0, .int p1] M (xRi Q) := by
  refine Ct_of (by decide +kernel) rfl (Nat.le_of_ble_eq_true rfl) ?_
  unfold wX3_questions at h
  show Gx l E mX3_questions (xRi Q) 0 M [some (.ref 0), some (.int p1)] []
  refine Gx_run (es := eX3_questions_0) (P := []) (M' := M) (L' := [some (.ref 0), some (.int p1)]) (st' := [.int (17 : Int32), .int p1]) (pc' := 3) kX3_questions_0 rfl trivial rfl ?_
  refine Gx_callS (As := [.int p1, .int (17 : Int32)]) (by decide +kernel) ml_3_84 okX3_isOutside mvX3_isOutside rfl (by decide) (Nat.le_of_ble_eq_true rfl) (tX3_isOutside h) (fun rr M3 qq => ?_)
  obtain ⟨r3, rfl, h⟩ := qq
  show Gx l E mX3_questions _ 6 M3 [some (.ref 0), some (.int p1)] [.int r3]
  refine Gx_if_eq (off := 10) (tgt := 16) (by decide +kernel) (by decide) (fun z => ?_) (fun z => ?_)
  · have h := h.1 z
    refine Gx_run (es := eX3_questions_16) (P := [xkd 0 = 3, xkd 0 = 3, xkd 0 = 3]) (M' := M3) (L' := [some (.ref 0), some (.int p1)]) (st' := [.int (M3 0 11), .ref 1, .ref 22]) (pc' := 28) kX3_questions_16 rfl ⟨rfl, rfl, rfl, trivial⟩ rfl ?_
    refine Gx_callV (As := [.ref 1, .int (M3 0 11)]) (by decide +kernel) ml_3_133 okX0_run mvX0_run rfl (by decide) (Nat.le_of_ble_eq_true rfl) rfl rfl rfl (tX0_run xChk_at22 xVol_at1 h) (fun rr M28 qq => ?_)
    obtain ⟨rfl, h⟩ := qq
    show Gx l E mX3_questions _ 31 M28 [some (.ref 0), some (.int p1)] []
    refine Gx_run (es := eX3_questions_31) (P := []) (M' := M28) (L' := [some (.ref 0), some (.int p1)]) (st' := [.int p1]) (pc' := 32) kX3_questions_31 rfl trivial rfl ?_
    refine Gx_if_ne (off := 13) (tgt := 45) (by decide +kernel) (by decide) (fun z => ?_) (fun z => ?_)
    · have h := h.1 z
      refine Gx_run (es := eX3_questions_45) (P := [xkd 0 = 3]) (M' := M28) (L' := [some (.ref 0), some (.int p1)]) (st' := [.int p1, .ref 22]) (pc' := 50) kX3_questions_45 rfl ⟨rfl, trivial⟩ rfl ?_
      refine Gx_callV (As := [.int p1]) (by decide +kernel) ml_3_147 okX0_askedFor mvX0_askedFor rfl (by decide) (Nat.le_of_ble_eq_true rfl) rfl rfl rfl (tX0_askedFor xChk_at22 h) (fun rr M50 qq => ?_)
      obtain ⟨r50, rfl, h⟩ := qq
      show Gx l E mX3_questions _ 53 M50 [some (.ref 0), some (.int p1)] [.int r50]
      refine Gx_mask [false, false] (L' := [none, none]) rfl ?_
      exact tX3_questions_53  M50 r50 h
    · have h := h.2 z
      refine Gx_run (es := eX3_questions_35) (P := [xkd 0 = 3, xkd 22 = 0]) (M' := M28) (L' := [some (.ref 0), some (.int p1)]) (st' := [.int (M28 22 4)]) (pc' := 42) kX3_questions_35 rfl ⟨rfl, rfl, trivial⟩ rfl ?_
      refine Gx_goto (off := 11) (tgt := 53) (by decide +kernel) (by decide) ?_
      refine Gx_mask [false, false] (L' := [none, none]) rfl ?_
      exact tX3_questions_53  M28 (M28 22 4) h
  · have h := h.2 z
    refine Gx_run (es := eX3_questions_9) (P := []) (M' := M3) (L' := [some (.ref 0), some (.int p1)]) (st' := [.int (-2 : Int32), .ref 0]) (pc' := 12) kX3_questions_9 rfl trivial rfl ?_
    refine Gx_callV (As := [.int (-2 : Int32)]) (by decide +kernel) ml_3_63 okX3_refusal mvX3_refusal rfl (by decide) (Nat.le_of_ble_eq_true rfl) rfl rfl rfl (tX3_refusal h) (fun rr M12 qq => ?_)
    obtain ⟨r12, rfl, h⟩ := qq
    show Gx l E mX3_questions _ 15 M12 [some (.ref 0), some (.int p1)] [.int r12]
    exact Gx_iret (by decide +kernel) rfl rfl ⟨_, rfl, h⟩
def eX3_reasons_0 : List xI := [(.aload_n 0, 1, 0, 0, 0), (.getfield 33, 3, 3, 5, 0), (.aload_n 0, 1, 0, 0, 0), (.getfield 10, 3, 3, 0, 0), (.aload_n 0, 1, 0, 0, 0), (.getfield 57, 3, 3, 11, 0)]
theorem kX3_reasons_0 : xcode (xmb mX3_reasons) (xmo mX3_reasons) 0 eX3_reasons_0 = true := by decide +kernel
def eX3_reasons_15 : List xI := [(.iconst 0, 1, 0, 0, (0)), (.istore_n 1, 1, 0, 0, 0), (.iconst 0, 1, 0, 0, (0)), (.istore_n 2, 1, 0, 0, 0)]
theorem kX3_reasons_15 : xcode (xmb mX3_reasons) (xmo mX3_reasons) 15 eX3_reasons_15 = true := by decide +kernel
def eX3_reasons_19 : List xI := [(.iload_n 2, 1, 0, 0, 0), (.aload_n 0, 1, 0, 0, 0), (.getfield 33, 3, 3, 5, 0), (.getfield 144, 3, 0, 4, 0)]
theorem kX3_reasons_19 : xcode (xmb mX3_reasons) (xmo mX3_reasons) 19 eX3_reasons_19 = true := by decide +kernel
def eX3_reasons_50 : List xI := [(.iload_n 1, 1, 0, 0, 0)]
theorem kX3_reasons_50 : xcode (xmb mX3_reasons) (xmo mX3_reasons) 50 eX3_reasons_50 = true := by decide +kernel
def eX3_reasons_30 : List xI := [(.iload_n 1, 1, 0, 0, 0), (.iconst 1, 1, 0, 0, (1)), (.aload_n 0, 1, 0, 0, 0), (.getfield 33, 3, 3, 5, 0), (.getfield 150, 3, 0, 1, 0), (.iload_n 2, 1, 0, 0, 0), (.iaload, 1, 0, 0, 0), (.ishl, 1, 0, 0, 0), (.ior, 1, 0, 0, 0), (.istore_n 1, 1, 0, 0, 0), (.iinc 2 1, 3, 0, 0, (1))]
theorem kX3_reasons_30 : xcode (xmb mX3_reasons) (xmo mX3_reasons) 30 eX3_reasons_30 = true := by decide +kernel
def lX3_reasons_19 (Q : Int32 → xM → Prop) : Nat → xM → Int32 → Int32 → Prop
  | 0 => fun _ _ _ => False
  | n + 1 => let k19 := lX3_reasons_19  Q n; fun M a1 a2 =>
    ((((M 22 4) ≤ a2) → (Q a1 M)) ∧ ((¬ (M 22 4) ≤ a2) → ((vp_in a2 180) ∧ k19 M (a1 ||| ((1 : Int32) <<< ((M 30 a2.toNatClampNeg) &&& 31))) (a2 + (1 : Int32)))))
set_option maxHeartbeats 4000000 in
set_option maxRecDepth 100000 in
theorem tX3_reasons_19 {l : Launch} {E : xE} {Q : Int32 → xM → Prop} (n : Nat) : ∀ (M : xM) (a1 : Int32) (a2 : Int32), lX3_reasons_19  Q n M a1 a2 → Gx l E mX3_reasons (xRi Q) 19 M [some (.ref 0), some (.int a1), some (.int a2)] [] := by
  induction n with
  | zero => intro M a1 a2 h; exact h.elim
  | succ n hk19 =>
      intro M a1 a2 h
      unfold lX3_reasons_19 at h
      dsimp only at h
      refine Gx_run (es := eX3_reasons_19) (P := [xkd 0 = 3, xkd 22 = 0]) (M' := M) (L' := [some (.ref 0), some (.int a1), some (.int a2)]) (st' := [.int (M 22 4), .int a2]) (pc' := 27) kX3_reasons_19 rfl ⟨rfl, rfl, trivial⟩ rfl ?_
      refine Gx_icmp_ge (off := 23) (tgt := 50) (by decide +kernel) (by decide) (fun z => ?_) (fun z => ?_)
      · have h := h.1 z
        refine Gx_run (es := eX3_reasons_50) (P := []) (M' := M) (L' := [some (.ref 0), some (.int a1), some (.int a2)]) (st' := [.int a1]) (pc' := 51) kX3_reasons_50 rfl trivial rfl ?_
        exact Gx_iret (by decide +kernel) rfl rfl ⟨_, rfl, h⟩
      · have h := h.2 z
        obtain ⟨g30_0, h⟩ := h
        refine Gx_run (es := eX3_reasons_30) (P := [xkd 0 = 3, xkd 22 = 0, xkd 30 = 5, vp_in a2 (xln 30)]) (M' := M) (L' := [some (.ref 0), some (.int (a1 ||| ((1 : Int32) <<< ((M 30 a2.toNatClampNeg) &&& 31)))), some (.int (a2 + (1 : Int32)))]) (st' := []) (pc' := 47) kX3_reasons_30 rfl ⟨rfl, rfl, rfl, g30_0, trivial⟩ rfl ?_
        refine Gx_goto (off := -28) (tgt := 19) (by decide +kernel) (by decide) ?_
        refine Gx_mask [true, true, true] (L' := [some (.ref 0), some (.int (a1 ||| ((1 : Int32) <<< ((M 30 a2.toNatClampNeg) &&& 31)))), some (.int (a2 + (1 : Int32)))]) rfl ?_
        exact hk19 M (a1 ||| ((1 : Int32) <<< ((M 30 a2.toNatClampNeg) &&& 31))) (a2 + (1 : Int32)) h
def wX3_reasons (M : xM) (Q : Int32 → xM → Prop) : Prop :=
    wX0_run M 22 1 (M 0 11) (fun M12 => (∃ n : Nat, lX3_reasons_19  Q n M12 (0 : Int32) (0 : Int32)))
set_option maxHeartbeats 4000000 in
set_option maxRecDepth 100000 in
theorem tX3_reasons {l : Launch} {E : xE} {M : xM} {Q : Int32 → xM → Prop} (h : wX3_reasons M  Q) : Ct l E mX3_reasons [.ref 0] M (xRi Q) := by
  refine Ct_of (by decide +kernel) rfl (Nat.le_of_ble_eq_true rfl) ?_
  unfold wX3_reasons at h
  show Gx l E mX3_reasons (xRi Q) 0 M [some (.ref 0), none, none] []
  refine Gx_run (es := eX3_reasons_0) (P := [xkd 0 = 3, xkd 0 = 3, xkd 0 = 3]) (M' := M) (L' := [some (.ref 0), none, none]) (st' := [.int (M 0 11), .ref 1, .ref 22]) (pc' := 12) kX3_reasons_0 rfl ⟨rfl, rfl, rfl, trivial⟩ rfl ?_
  refine Gx_callV (As := [.ref 1, .int (M 0 11)]) (by decide +kernel) ml_3_133 okX0_run mvX0_run rfl (by decide) (Nat.le_of_ble_eq_true rfl) rfl rfl rfl (tX0_run xChk_at22 xVol_at1 h) (fun rr M12 qq => ?_)
  obtain ⟨rfl, h⟩ := qq
  show Gx l E mX3_reasons _ 15 M12 [some (.ref 0), none, none] []
  refine Gx_run (es := eX3_reasons_15) (P := []) (M' := M12) (L' := [some (.ref 0), some (.int (0 : Int32)), some (.int (0 : Int32))]) (st' := []) (pc' := 19) kX3_reasons_15 rfl trivial rfl ?_
  refine Gx_mask [true, true, true] (L' := [some (.ref 0), some (.int (0 : Int32)), some (.int (0 : Int32))]) rfl ?_
  obtain ⟨n, h⟩ := h
  exact tX3_reasons_19  n M12 (0 : Int32) (0 : Int32) h
def eX3_second_0 : List xI := [(.aload_n 0, 1, 0, 0, 0), (.getfield 33, 3, 3, 5, 0), (.aload_n 0, 1, 0, 0, 0), (.getfield 10, 3, 3, 0, 0), (.aload_n 0, 1, 0, 0, 0), (.getfield 57, 3, 3, 11, 0)]
theorem kX3_second_0 : xcode (xmb mX3_second) (xmo mX3_second) 0 eX3_second_0 = true := by decide +kernel
def eX3_second_15 : List xI := [(.aload_n 0, 1, 0, 0, 0), (.getfield 37, 3, 3, 6, 0), (.aload_n 0, 1, 0, 0, 0), (.getfield 33, 3, 3, 5, 0), (.getfield 137, 3, 0, 0, 0), (.aload_n 0, 1, 0, 0, 0), (.getfield 57, 3, 3, 11, 0)]
theorem kX3_second_15 : xcode (xmb mX3_second) (xmo mX3_second) 15 eX3_second_15 = true := by decide +kernel
def eX3_second_33 : List xI := [(.aload_n 0, 1, 0, 0, 0), (.getfield 37, 3, 3, 6, 0), (.getfield 144, 3, 0, 4, 0)]
theorem kX3_second_33 : xcode (xmb mX3_second) (xmo mX3_second) 33 eX3_second_33 = true := by decide +kernel
def wX3_second (M : xM) (Q : Int32 → xM → Prop) : Prop :=
    wX0_run M 22 1 (M 0 11) (fun M12 => wX0_run M12 34 23 (M12 0 11) (fun M30 => Q (M30 34 4) M30))
set_option maxHeartbeats 4000000 in
set_option maxRecDepth 100000 in
theorem tX3_second {l : Launch} {E : xE} {M : xM} {Q : Int32 → xM → Prop} (h : wX3_second M  Q) : Ct l E mX3_second [.ref 0] M (xRi Q) := by
  refine Ct_of (by decide +kernel) rfl (Nat.le_of_ble_eq_true rfl) ?_
  unfold wX3_second at h
  show Gx l E mX3_second (xRi Q) 0 M [some (.ref 0)] []
  refine Gx_run (es := eX3_second_0) (P := [xkd 0 = 3, xkd 0 = 3, xkd 0 = 3]) (M' := M) (L' := [some (.ref 0)]) (st' := [.int (M 0 11), .ref 1, .ref 22]) (pc' := 12) kX3_second_0 rfl ⟨rfl, rfl, rfl, trivial⟩ rfl ?_
  refine Gx_callV (As := [.ref 1, .int (M 0 11)]) (by decide +kernel) ml_3_133 okX0_run mvX0_run rfl (by decide) (Nat.le_of_ble_eq_true rfl) rfl rfl rfl (tX0_run xChk_at22 xVol_at1 h) (fun rr M12 qq => ?_)
  obtain ⟨rfl, h⟩ := qq
  show Gx l E mX3_second _ 15 M12 [some (.ref 0)] []
  refine Gx_run (es := eX3_second_15) (P := [xkd 0 = 3, xkd 0 = 3, xkd 22 = 0, xkd 0 = 3]) (M' := M12) (L' := [some (.ref 0)]) (st' := [.int (M12 0 11), .ref 23, .ref 34]) (pc' := 30) kX3_second_15 rfl ⟨rfl, rfl, rfl, rfl, trivial⟩ rfl ?_
  refine Gx_callV (As := [.ref 23, .int (M12 0 11)]) (by decide +kernel) ml_3_133 okX0_run mvX0_run rfl (by decide) (Nat.le_of_ble_eq_true rfl) rfl rfl rfl (tX0_run xChk_at34 xVol_at23 h) (fun rr M30 qq => ?_)
  obtain ⟨rfl, h⟩ := qq
  show Gx l E mX3_second _ 33 M30 [some (.ref 0)] []
  refine Gx_run (es := eX3_second_33) (P := [xkd 0 = 3, xkd 34 = 0]) (M' := M30) (L' := [some (.ref 0)]) (st' := [.int (M30 34 4)]) (pc' := 40) kX3_second_33 rfl ⟨rfl, rfl, trivial⟩ rfl ?_
  exact Gx_iret (by decide +kernel) rfl rfl ⟨_, rfl, h⟩
def eX3_slotThen_0 : List xI := [(.iload_n 1, 1, 0, 0, 0), (.bipush 10, 2, 0, 0, (10))]
theorem kX3_slotThen_0 : xcode (xmb mX3_slotThen) (xmo mX3_slotThen) 0 eX3_slotThen_0 = true := by decide +kernel
def eX3_slotThen_18 : List xI := [(.aload_n 0, 1, 0, 0, 0), (.iconst (-1), 1, 0, 0, (-1))]
theorem kX3_slotThen_18 : xcode (xmb mX3_slotThen) (xmo mX3_slotThen) 18 eX3_slotThen_18 = true := by decide +kernel
def eX3_slotThen_9 : List xI := [(.iload_n 2, 1, 0, 0, 0), (.bipush 6, 2, 0, 0, (6))]
theorem kX3_slotThen_9 : xcode (xmb mX3_slotThen) (xmo mX3_slotThen) 9 eX3_slotThen_9 = true := by decide +kernel
def eX3_slotThen_24 : List xI := [(.aload_n 0, 1, 0, 0, 0), (.getfield 33, 3, 3, 5, 0), (.aload_n 0, 1, 0, 0, 0), (.getfield 10, 3, 3, 0, 0), (.aload_n 0, 1, 0, 0, 0), (.getfield 57, 3, 3, 11, 0)]
theorem kX3_slotThen_24 : xcode (xmb mX3_slotThen) (xmo mX3_slotThen) 24 eX3_slotThen_24 = true := by decide +kernel
def eX3_slotThen_39 : List xI := [(.aload_n 0, 1, 0, 0, 0), (.getfield 33, 3, 3, 5, 0), (.getfield 137, 3, 0, 0, 0), (.getfield 112, 3, 2, 4, 0), (.bipush 6, 2, 0, 0, (6)), (.iload_n 1, 1, 0, 0, 0), (.imul, 1, 0, 0, 0), (.iload_n 2, 1, 0, 0, 0), (.iadd, 1, 0, 0, 0), (.iaload, 1, 0, 0, 0)]
theorem kX3_slotThen_39 : xcode (xmb mX3_slotThen) (xmo mX3_slotThen) 39 eX3_slotThen_39 = true := by decide +kernel
def wX3_slotThen_18 (p1 : Int32) (p2 : Int32) (Q : Int32 → xM → Prop) (M : xM) : Prop :=
    wX3_refusal M (-1 : Int32) (fun r20 M20 => Q r20 M20)
set_option maxHeartbeats 4000000 in
set_option maxRecDepth 100000 in
theorem tX3_slotThen_18 {l : Launch} {E : xE} {p1 : Int32} {p2 : Int32} {Q : Int32 → xM → Prop} (M : xM) (h : wX3_slotThen_18 p1 p2 Q M ) : Gx l E mX3_slotThen (xRi Q) 18 M [some (.ref 0), none, none] [] := by
  unfold wX3_slotThen_18 at h
  refine Gx_run (es := eX3_slotThen_18) (P := []) (M' := M) (L' := [some (.ref 0), none, none]) (st' := [.int (-1 : Int32), .ref 0]) (pc' := 20) kX3_slotThen_18 rfl trivial rfl ?_
  refine Gx_callV (As := [.int (-1 : Int32)]) (by decide +kernel) ml_3_63 okX3_refusal mvX3_refusal rfl (by decide) (Nat.le_of_ble_eq_true rfl) rfl rfl rfl (tX3_refusal h) (fun rr M20 qq => ?_)
  obtain ⟨r20, rfl, h⟩ := qq
  show Gx l E mX3_slotThen _ 23 M20 [some (.ref 0), none, none] [.int r20]
  exact Gx_iret (by decide +kernel) rfl rfl ⟨_, rfl, h⟩
def wX3_slotThen (M : xM) (p1 : Int32) (p2 : Int32) (Q : Int32 → xM → Prop) : Prop :=
    wX3_isOutside M p1 (10 : Int32) (fun r3 M3 => (((¬ r3 = 0) → (wX3_slotThen_18 p1 p2 Q M3)) ∧ ((r3 = 0) → (wX3_isOutside M3 p2 (6 : Int32) (fun r12 M12 => (((r12 = 0) → (wX0_run M12 22 1 (M12 0 11) (fun M36 => (vp_in (((6 : Int32) * p1) + p2) 60) ∧ Q (M36 28 (((6 : Int32) * p1) + p2).toNatClampNeg) M36))) ∧ ((¬ r12 = 0) → (wX3_slotThen_18 p1 p2 Q M12))))))))
set_option maxHeartbeats 4000000 in
set_option maxRecDepth 100000 in
theorem tX3_slotThen {l : Launch} {E : xE} {M : xM} {p1 : Int32} {p2 : Int32} {Q : Int32 → xM → Prop} (h : wX3_slotThen M p1 p2 Q) : Ct l E mX3_slotThen [.ref 0, .int p1, .int p2] M (xRi Q) := by
  refine Ct_of (by decide +kernel) rfl (Nat.le_of_ble_eq_true rfl) ?_
  unfold wX3_slotThen at h
  show Gx l E mX3_slotThen (xRi Q) 0 M [some (.ref 0), some (.int p1), some (.int p2)] []
  refine Gx_run (es := eX3_slotThen_0) (P := []) (M' := M) (L' := [some (.ref 0), some (.int p1), some (.int p2)]) (st' := [.int (10 : Int32), .int p1]) (pc' := 3) kX3_slotThen_0 rfl trivial rfl ?_
  refine Gx_callS (As := [.int p1, .int (10 : Int32)]) (by decide +kernel) ml_3_84 okX3_isOutside mvX3_isOutside rfl (by decide) (Nat.le_of_ble_eq_true rfl) (tX3_isOutside h) (fun rr M3 qq => ?_)
  obtain ⟨r3, rfl, h⟩ := qq
  show Gx l E mX3_slotThen _ 6 M3 [some (.ref 0), some (.int p1), some (.int p2)] [.int r3]
  refine Gx_if_ne (off := 12) (tgt := 18) (by decide +kernel) (by decide) (fun z => ?_) (fun z => ?_)
  · have h := h.1 z
    refine Gx_mask [true, false, false] (L' := [some (.ref 0), none, none]) rfl ?_
    exact tX3_slotThen_18  M3 h
  · have h := h.2 z
    refine Gx_run (es := eX3_slotThen_9) (P := []) (M' := M3) (L' := [some (.ref 0), some (.int p1), some (.int p2)]) (st' := [.int (6 : Int32), .int p2]) (pc' := 12) kX3_slotThen_9 rfl trivial rfl ?_
    refine Gx_callS (As := [.int p2, .int (6 : Int32)]) (by decide +kernel) ml_3_84 okX3_isOutside mvX3_isOutside rfl (by decide) (Nat.le_of_ble_eq_true rfl) (tX3_isOutside h) (fun rr M12 qq => ?_)
    obtain ⟨r12, rfl, h⟩ := qq
    show Gx l E mX3_slotThen _ 15 M12 [some (.ref 0), some (.int p1), some (.int p2)] [.int r12]
    refine Gx_if_eq (off := 9) (tgt := 24) (by decide +kernel) (by decide) (fun z => ?_) (fun z => ?_)
    · have h := h.1 z
      refine Gx_run (es := eX3_slotThen_24) (P := [xkd 0 = 3, xkd 0 = 3, xkd 0 = 3]) (M' := M12) (L' := [some (.ref 0), some (.int p1), some (.int p2)]) (st' := [.int (M12 0 11), .ref 1, .ref 22]) (pc' := 36) kX3_slotThen_24 rfl ⟨rfl, rfl, rfl, trivial⟩ rfl ?_
      refine Gx_callV (As := [.ref 1, .int (M12 0 11)]) (by decide +kernel) ml_3_133 okX0_run mvX0_run rfl (by decide) (Nat.le_of_ble_eq_true rfl) rfl rfl rfl (tX0_run xChk_at22 xVol_at1 h) (fun rr M36 qq => ?_)
      obtain ⟨rfl, h⟩ := qq
      show Gx l E mX3_slotThen _ 39 M36 [some (.ref 0), some (.int p1), some (.int p2)] []
      obtain ⟨g39_0, h⟩ := h
      refine Gx_run (es := eX3_slotThen_39) (P := [xkd 0 = 3, xkd 22 = 0, xkd 23 = 2, xkd 28 = 5, vp_in (((6 : Int32) * p1) + p2) (xln 28)]) (M' := M36) (L' := [some (.ref 0), some (.int p1), some (.int p2)]) (st' := [.int (M36 28 (((6 : Int32) * p1) + p2).toNatClampNeg)]) (pc' := 56) kX3_slotThen_39 rfl ⟨rfl, rfl, rfl, rfl, g39_0, trivial⟩ rfl ?_
      exact Gx_iret (by decide +kernel) rfl rfl ⟨_, rfl, h⟩
    · have h := h.2 z
      refine Gx_mask [true, false, false] (L' := [some (.ref 0), none, none]) rfl ?_
      exact tX3_slotThen_18  M12 h
def eX3_sound_0 : List xI := [(.aload_n 0, 1, 0, 0, 0), (.getfield 33, 3, 3, 5, 0), (.aload_n 0, 1, 0, 0, 0), (.getfield 10, 3, 3, 0, 0), (.aload_n 0, 1, 0, 0, 0), (.getfield 57, 3, 3, 11, 0)]
theorem kX3_sound_0 : xcode (xmb mX3_sound) (xmo mX3_sound) 0 eX3_sound_0 = true := by decide +kernel
def eX3_sound_15 : List xI := [(.aload_n 0, 1, 0, 0, 0), (.getfield 33, 3, 3, 5, 0), (.getfield 144, 3, 0, 4, 0)]
theorem kX3_sound_15 : xcode (xmb mX3_sound) (xmo mX3_sound) 15 eX3_sound_15 = true := by decide +kernel
def eX3_sound_29 : List xI := [(.iconst 0, 1, 0, 0, (0))]
theorem kX3_sound_29 : xcode (xmb mX3_sound) (xmo mX3_sound) 29 eX3_sound_29 = true := by decide +kernel
def eX3_sound_25 : List xI := [(.iconst 1, 1, 0, 0, (1))]
theorem kX3_sound_25 : xcode (xmb mX3_sound) (xmo mX3_sound) 25 eX3_sound_25 = true := by decide +kernel
def wX3_sound_30 (Q : Int32 → xM → Prop) (M : xM) (s0 : Int32) : Prop :=
    Q s0 M
set_option maxHeartbeats 4000000 in
set_option maxRecDepth 100000 in
theorem tX3_sound_30 {l : Launch} {E : xE} {Q : Int32 → xM → Prop} (M : xM) (s0 : Int32) (h : wX3_sound_30  Q M s0) : Gx l E mX3_sound (xRi Q) 30 M [none] [.int s0] := by
  unfold wX3_sound_30 at h
  exact Gx_iret (by decide +kernel) rfl rfl ⟨_, rfl, h⟩
def wX3_sound (M : xM) (Q : Int32 → xM → Prop) : Prop :=
    wX0_run M 22 1 (M 0 11) (fun M12 => (((¬ (M12 22 4) = 0) → (wX3_sound_30  Q M12 (0 : Int32))) ∧ (((M12 22 4) = 0) → (wX3_sound_30  Q M12 (1 : Int32)))))
set_option maxHeartbeats 4000000 in
set_option maxRecDepth 100000 in
theorem tX3_sound {l : Launch} {E : xE} {M : xM} {Q : Int32 → xM → Prop} (h : wX3_sound M  Q) : Ct l E mX3_sound [.ref 0] M (xRi Q) := by
  refine Ct_of (by decide +kernel) rfl (Nat.le_of_ble_eq_true rfl) ?_
  unfold wX3_sound at h
  show Gx l E mX3_sound (xRi Q) 0 M [some (.ref 0)] []
  refine Gx_run (es := eX3_sound_0) (P := [xkd 0 = 3, xkd 0 = 3, xkd 0 = 3]) (M' := M) (L' := [some (.ref 0)]) (st' := [.int (M 0 11), .ref 1, .ref 22]) (pc' := 12) kX3_sound_0 rfl ⟨rfl, rfl, rfl, trivial⟩ rfl ?_
  refine Gx_callV (As := [.ref 1, .int (M 0 11)]) (by decide +kernel) ml_3_133 okX0_run mvX0_run rfl (by decide) (Nat.le_of_ble_eq_true rfl) rfl rfl rfl (tX0_run xChk_at22 xVol_at1 h) (fun rr M12 qq => ?_)
  obtain ⟨rfl, h⟩ := qq
  show Gx l E mX3_sound _ 15 M12 [some (.ref 0)] []
  refine Gx_run (es := eX3_sound_15) (P := [xkd 0 = 3, xkd 22 = 0]) (M' := M12) (L' := [some (.ref 0)]) (st' := [.int (M12 22 4)]) (pc' := 22) kX3_sound_15 rfl ⟨rfl, rfl, trivial⟩ rfl ?_
  refine Gx_if_ne (off := 7) (tgt := 29) (by decide +kernel) (by decide) (fun z => ?_) (fun z => ?_)
  · have h := h.1 z
    refine Gx_run (es := eX3_sound_29) (P := []) (M' := M12) (L' := [some (.ref 0)]) (st' := [.int (0 : Int32)]) (pc' := 30) kX3_sound_29 rfl trivial rfl ?_
    refine Gx_mask [false] (L' := [none]) rfl ?_
    exact tX3_sound_30  M12 (0 : Int32) h
  · have h := h.2 z
    refine Gx_run (es := eX3_sound_25) (P := []) (M' := M12) (L' := [some (.ref 0)]) (st' := [.int (1 : Int32)]) (pc' := 26) kX3_sound_25 rfl trivial rfl ?_
    refine Gx_goto (off := 4) (tgt := 30) (by decide +kernel) (by decide) ?_
    refine Gx_mask [false] (L' := [none]) rfl ?_
    exact tX3_sound_30  M12 (1 : Int32) h
def eX3_then_0 : List xI := [(.iload_n 1, 1, 0, 0, 0), (.bipush 10, 2, 0, 0, (10))]
theorem kX3_then_0 : xcode (xmb mX3_then) (xmo mX3_then) 0 eX3_then_0 = true := by decide +kernel
def eX3_then_15 : List xI := [(.iload_n 2, 1, 0, 0, 0), (.bipush 6, 2, 0, 0, (6))]
theorem kX3_then_15 : xcode (xmb mX3_then) (xmo mX3_then) 15 eX3_then_15 = true := by decide +kernel
def eX3_then_31 : List xI := [(.aload_n 0, 1, 0, 0, 0), (.getfield 33, 3, 3, 5, 0), (.aload_n 0, 1, 0, 0, 0), (.getfield 10, 3, 3, 0, 0), (.aload_n 0, 1, 0, 0, 0), (.getfield 57, 3, 3, 11, 0)]
theorem kX3_then_31 : xcode (xmb mX3_then) (xmo mX3_then) 31 eX3_then_31 = true := by decide +kernel
def eX3_then_46 : List xI := [(.aload_n 0, 1, 0, 0, 0), (.getfield 33, 3, 3, 5, 0), (.getfield 137, 3, 0, 0, 0), (.astore_n 3, 1, 0, 0, 0), (.iload_n 2, 1, 0, 0, 0)]
theorem kX3_then_46 : xcode (xmb mX3_then) (xmo mX3_then) 46 eX3_then_46 = true := by decide +kernel
def eX3_then_88 : List xI := [(.aload_n 3, 1, 0, 0, 0), (.getfield 88, 3, 2, 0, 0), (.iload_n 1, 1, 0, 0, 0), (.iaload, 1, 0, 0, 0)]
theorem kX3_then_88 : xcode (xmb mX3_then) (xmo mX3_then) 88 eX3_then_88 = true := by decide +kernel
def eX3_then_95 : List xI := [(.aload_n 3, 1, 0, 0, 0), (.getfield 91, 3, 2, 1, 0), (.iload_n 1, 1, 0, 0, 0), (.iaload, 1, 0, 0, 0)]
theorem kX3_then_95 : xcode (xmb mX3_then) (xmo mX3_then) 95 eX3_then_95 = true := by decide +kernel
def eX3_then_102 : List xI := [(.aload_n 3, 1, 0, 0, 0), (.getfield 94, 3, 2, 2, 0), (.iload_n 1, 1, 0, 0, 0), (.iaload, 1, 0, 0, 0)]
theorem kX3_then_102 : xcode (xmb mX3_then) (xmo mX3_then) 102 eX3_then_102 = true := by decide +kernel
def eX3_then_109 : List xI := [(.aload_n 3, 1, 0, 0, 0), (.iload_n 1, 1, 0, 0, 0)]
theorem kX3_then_109 : xcode (xmb mX3_then) (xmo mX3_then) 109 eX3_then_109 = true := by decide +kernel
def eX3_then_115 : List xI := [(.aload_n 3, 1, 0, 0, 0), (.iload_n 1, 1, 0, 0, 0)]
theorem kX3_then_115 : xcode (xmb mX3_then) (xmo mX3_then) 115 eX3_then_115 = true := by decide +kernel
def eX3_then_121 : List xI := [(.aload_n 3, 1, 0, 0, 0), (.iload_n 1, 1, 0, 0, 0)]
theorem kX3_then_121 : xcode (xmb mX3_then) (xmo mX3_then) 121 eX3_then_121 = true := by decide +kernel
def eX3_then_24 : List xI := [(.aload_n 0, 1, 0, 0, 0), (.bipush (-2), 2, 0, 0, (-2))]
theorem kX3_then_24 : xcode (xmb mX3_then) (xmo mX3_then) 24 eX3_then_24 = true := by decide +kernel
def eX3_then_9 : List xI := [(.aload_n 0, 1, 0, 0, 0), (.iconst (-1), 1, 0, 0, (-1))]
theorem kX3_then_9 : xcode (xmb mX3_then) (xmo mX3_then) 9 eX3_then_9 = true := by decide +kernel
def wX3_then (M : xM) (p1 : Int32) (p2 : Int32) (Q : Int32 → xM → Prop) : Prop :=
    wX3_isOutside M p1 (10 : Int32) (fun r3 M3 => (((r3 = 0) → (wX3_isOutside M3 p2 (6 : Int32) (fun r18 M18 => (((r18 = 0) → (wX0_run M18 22 1 (M18 0 11) (fun M43 => (((p2 = (0 : Int32)) → ((vp_in p1 10) ∧ Q (M43 24 p1.toNatClampNeg) M43)) ∧ ((¬ p2 = (0 : Int32)) → (((p2 = (1 : Int32)) → ((vp_in p1 10) ∧ Q (M43 25 p1.toNatClampNeg) M43)) ∧ ((¬ p2 = (1 : Int32)) → (((p2 = (2 : Int32)) → ((vp_in p1 10) ∧ Q (M43 26 p1.toNatClampNeg) M43)) ∧ ((¬ p2 = (2 : Int32)) → (((p2 = (3 : Int32)) → (wX2_depthOf M43 23 p1 (fun r111 M111 => Q r111 M111))) ∧ ((¬ p2 = (3 : Int32)) → (((p2 = (4 : Int32)) → (wX2_inodesBelow M43 23 p1 (fun r117 M117 => Q r117 M117))) ∧ ((¬ p2 = (4 : Int32)) → (wX2_blocksBelow M43 23 p1 (fun r123 M123 => Q r123 M123))))))))))))))) ∧ ((¬ r18 = 0) → (wX3_refusal M18 (-2 : Int32) (fun r27 M27 => Q r27 M27))))))) ∧ ((¬ r3 = 0) → (wX3_refusal M3 (-1 : Int32) (fun r11 M11 => Q r11 M11)))))
set_option maxHeartbeats 4000000 in
set_option maxRecDepth 100000 in
theorem tX3_then {l : Launch} {E : xE} {M : xM} {p1 : Int32} {p2 : Int32} {Q : Int32 → xM → Prop} (h : wX3_then M p1 p2 Q) : Ct l E mX3_then [.ref 0, .int p1, .int p2] M (xRi Q) := by
  refine Ct_of (by decide +kernel) rfl (Nat.le_of_ble_eq_true rfl) ?_
  unfold wX3_then at h
  show Gx l E mX3_then (xRi Q) 0 M [some (.ref 0), some (.int p1), some (.int p2), none] []
  refine Gx_run (es := eX3_then_0) (P := []) (M' := M) (L' := [some (.ref 0), some (.int p1), some (.int p2), none]) (st' := [.int (10 : Int32), .int p1]) (pc' := 3) kX3_then_0 rfl trivial rfl ?_
  refine Gx_callS (As := [.int p1, .int (10 : Int32)]) (by decide +kernel) ml_3_84 okX3_isOutside mvX3_isOutside rfl (by decide) (Nat.le_of_ble_eq_true rfl) (tX3_isOutside h) (fun rr M3 qq => ?_)
  obtain ⟨r3, rfl, h⟩ := qq
  show Gx l E mX3_then _ 6 M3 [some (.ref 0), some (.int p1), some (.int p2), none] [.int r3]
  refine Gx_if_eq (off := 9) (tgt := 15) (by decide +kernel) (by decide) (fun z => ?_) (fun z => ?_)
  · have h := h.1 z
    refine Gx_run (es := eX3_then_15) (P := []) (M' := M3) (L' := [some (.ref 0), some (.int p1), some (.int p2), none]) (st' := [.int (6 : Int32), .int p2]) (pc' := 18) kX3_then_15 rfl trivial rfl ?_
    refine Gx_callS (As := [.int p2, .int (6 : Int32)]) (by decide +kernel) ml_3_84 okX3_isOutside mvX3_isOutside rfl (by decide) (Nat.le_of_ble_eq_true rfl) (tX3_isOutside h) (fun rr M18 qq => ?_)
    obtain ⟨r18, rfl, h⟩ := qq
    show Gx l E mX3_then _ 21 M18 [some (.ref 0), some (.int p1), some (.int p2), none] [.int r18]
    refine Gx_if_eq (off := 10) (tgt := 31) (by decide +kernel) (by decide) (fun z => ?_) (fun z => ?_)
    · have h := h.1 z
      refine Gx_run (es := eX3_then_31) (P := [xkd 0 = 3, xkd 0 = 3, xkd 0 = 3]) (M' := M18) (L' := [some (.ref 0), some (.int p1), some (.int p2), none]) (st' := [.int (M18 0 11), .ref 1, .ref 22]) (pc' := 43) kX3_then_31 rfl ⟨rfl, rfl, rfl, trivial⟩ rfl ?_
      refine Gx_callV (As := [.ref 1, .int (M18 0 11)]) (by decide +kernel) ml_3_133 okX0_run mvX0_run rfl (by decide) (Nat.le_of_ble_eq_true rfl) rfl rfl rfl (tX0_run xChk_at22 xVol_at1 h) (fun rr M43 qq => ?_)
      obtain ⟨rfl, h⟩ := qq
      show Gx l E mX3_then _ 46 M43 [some (.ref 0), some (.int p1), some (.int p2), none] []
      refine Gx_run (es := eX3_then_46) (P := [xkd 0 = 3, xkd 22 = 0, 23 ≠ 103]) (M' := M43) (L' := [some (.ref 0), some (.int p1), some (.int p2), some (.ref 23)]) (st' := [.int p2]) (pc' := 55) kX3_then_46 rfl ⟨rfl, rfl, (by decide), trivial⟩ rfl ?_
      by_cases z0 : p2 = (0 : Int32)
      · have h := h.1 z0
        refine Gx_tabAt (dflt := 66) (lo := 0) (hi := 4) (offs := #[33, 40, 47, 54, 60]) (len := 33) z0 (by decide +kernel) (by decide) (by decide) (off := 33) (tgt := 88) rfl (by decide) ?_
        obtain ⟨g88_0, h⟩ := h
        refine Gx_run (es := eX3_then_88) (P := [xkd 23 = 2, xkd 24 = 5, vp_in p1 (xln 24)]) (M' := M43) (L' := [some (.ref 0), some (.int p1), some (.int p2), some (.ref 23)]) (st' := [.int (M43 24 p1.toNatClampNeg)]) (pc' := 94) kX3_then_88 rfl ⟨rfl, rfl, g88_0, trivial⟩ rfl ?_
        exact Gx_iret (by decide +kernel) rfl rfl ⟨_, rfl, h⟩
      replace h := h.2 z0
      by_cases z1 : p2 = (1 : Int32)
      · have h := h.1 z1
        refine Gx_tabAt (dflt := 66) (lo := 0) (hi := 4) (offs := #[33, 40, 47, 54, 60]) (len := 33) z1 (by decide +kernel) (by decide) (by decide) (off := 40) (tgt := 95) rfl (by decide) ?_
        obtain ⟨g95_0, h⟩ := h
        refine Gx_run (es := eX3_then_95) (P := [xkd 23 = 2, xkd 25 = 5, vp_in p1 (xln 25)]) (M' := M43) (L' := [some (.ref 0), some (.int p1), some (.int p2), some (.ref 23)]) (st' := [.int (M43 25 p1.toNatClampNeg)]) (pc' := 101) kX3_then_95 rfl ⟨rfl, rfl, g95_0, trivial⟩ rfl ?_
        exact Gx_iret (by decide +kernel) rfl rfl ⟨_, rfl, h⟩
      replace h := h.2 z1
      by_cases z2 : p2 = (2 : Int32)
      · have h := h.1 z2
        refine Gx_tabAt (dflt := 66) (lo := 0) (hi := 4) (offs := #[33, 40, 47, 54, 60]) (len := 33) z2 (by decide +kernel) (by decide) (by decide) (off := 47) (tgt := 102) rfl (by decide) ?_
        obtain ⟨g102_0, h⟩ := h
        refine Gx_run (es := eX3_then_102) (P := [xkd 23 = 2, xkd 26 = 5, vp_in p1 (xln 26)]) (M' := M43) (L' := [some (.ref 0), some (.int p1), some (.int p2), some (.ref 23)]) (st' := [.int (M43 26 p1.toNatClampNeg)]) (pc' := 108) kX3_then_102 rfl ⟨rfl, rfl, g102_0, trivial⟩ rfl ?_
        exact Gx_iret (by decide +kernel) rfl rfl ⟨_, rfl, h⟩
      replace h := h.2 z2
      by_cases z3 : p2 = (3 : Int32)
      · have h := h.1 z3
        refine Gx_tabAt (dflt := 66) (lo := 0) (hi := 4) (offs := #[33, 40, 47, 54, 60]) (len := 33) z3 (by decide +kernel) (by decide) (by decide) (off := 54) (tgt := 109) rfl (by decide) ?_
        refine Gx_run (es := eX3_then_109) (P := []) (M' := M43) (L' := [some (.ref 0), some (.int p1), some (.int p2), some (.ref 23)]) (st' := [.int p1, .ref 23]) (pc' := 111) kX3_then_109 rfl trivial rfl ?_
        refine Gx_callV (As := [.int p1]) (by decide +kernel) ml_3_159 okX2_depthOf mvX2_depthOf rfl (by decide) (Nat.le_of_ble_eq_true rfl) rfl rfl rfl (tX2_depthOf xVol_at23 h) (fun rr M111 qq => ?_)
        obtain ⟨r111, rfl, h⟩ := qq
        show Gx l E mX3_then _ 114 M111 [some (.ref 0), some (.int p1), some (.int p2), some (.ref 23)] [.int r111]
        exact Gx_iret (by decide +kernel) rfl rfl ⟨_, rfl, h⟩
      replace h := h.2 z3
      by_cases z4 : p2 = (4 : Int32)
      · have h := h.1 z4
        refine Gx_tabAt (dflt := 66) (lo := 0) (hi := 4) (offs := #[33, 40, 47, 54, 60]) (len := 33) z4 (by decide +kernel) (by decide) (by decide) (off := 60) (tgt := 115) rfl (by decide) ?_
        refine Gx_run (es := eX3_then_115) (P := []) (M' := M43) (L' := [some (.ref 0), some (.int p1), some (.int p2), some (.ref 23)]) (st' := [.int p1, .ref 23]) (pc' := 117) kX3_then_115 rfl trivial rfl ?_
        refine Gx_callV (As := [.int p1]) (by decide +kernel) ml_3_162 okX2_inodesBelow mvX2_inodesBelow rfl (by decide) (Nat.le_of_ble_eq_true rfl) rfl rfl rfl (tX2_inodesBelow xVol_at23 h) (fun rr M117 qq => ?_)
        obtain ⟨r117, rfl, h⟩ := qq
        show Gx l E mX3_then _ 120 M117 [some (.ref 0), some (.int p1), some (.int p2), some (.ref 23)] [.int r117]
        exact Gx_iret (by decide +kernel) rfl rfl ⟨_, rfl, h⟩
      replace h := h.2 z4
      suffices hk : Gx l E mX3_then _ 121 M43 [some (.ref 0), some (.int p1), some (.int p2), some (.ref 23)] [] by
        refine Gx_tableOut (dflt := 66) (lo := 0) (hi := 4) (offs := #[33, 40, 47, 54, 60]) (len := 33) (tgt := 121) (by decide +kernel) ?_ (by decide) hk
        have n0 := lv_neT (a := 0) z0 (by decide)
        have n1 := lv_neT (a := 1) z1 (by decide)
        have n2 := lv_neT (a := 2) z2 (by decide)
        have n3 := lv_neT (a := 3) z3 (by decide)
        have n4 := lv_neT (a := 4) z4 (by decide)
        omega
      refine Gx_run (es := eX3_then_121) (P := []) (M' := M43) (L' := [some (.ref 0), some (.int p1), some (.int p2), some (.ref 23)]) (st' := [.int p1, .ref 23]) (pc' := 123) kX3_then_121 rfl trivial rfl ?_
      refine Gx_callV (As := [.int p1]) (by decide +kernel) ml_3_165 okX2_blocksBelow mvX2_blocksBelow rfl (by decide) (Nat.le_of_ble_eq_true rfl) rfl rfl rfl (tX2_blocksBelow xVol_at23 h) (fun rr M123 qq => ?_)
      obtain ⟨r123, rfl, h⟩ := qq
      show Gx l E mX3_then _ 126 M123 [some (.ref 0), some (.int p1), some (.int p2), some (.ref 23)] [.int r123]
      exact Gx_iret (by decide +kernel) rfl rfl ⟨_, rfl, h⟩
    · have h := h.2 z
      refine Gx_run (es := eX3_then_24) (P := []) (M' := M18) (L' := [some (.ref 0), some (.int p1), some (.int p2), none]) (st' := [.int (-2 : Int32), .ref 0]) (pc' := 27) kX3_then_24 rfl trivial rfl ?_
      refine Gx_callV (As := [.int (-2 : Int32)]) (by decide +kernel) ml_3_63 okX3_refusal mvX3_refusal rfl (by decide) (Nat.le_of_ble_eq_true rfl) rfl rfl rfl (tX3_refusal h) (fun rr M27 qq => ?_)
      obtain ⟨r27, rfl, h⟩ := qq
      show Gx l E mX3_then _ 30 M27 [some (.ref 0), some (.int p1), some (.int p2), none] [.int r27]
      exact Gx_iret (by decide +kernel) rfl rfl ⟨_, rfl, h⟩
  · have h := h.2 z
    refine Gx_run (es := eX3_then_9) (P := []) (M' := M3) (L' := [some (.ref 0), some (.int p1), some (.int p2), none]) (st' := [.int (-1 : Int32), .ref 0]) (pc' := 11) kX3_then_9 rfl trivial rfl ?_
    refine Gx_callV (As := [.int (-1 : Int32)]) (by decide +kernel) ml_3_63 okX3_refusal mvX3_refusal rfl (by decide) (Nat.le_of_ble_eq_true rfl) rfl rfl rfl (tX3_refusal h) (fun rr M11 qq => ?_)
    obtain ⟨r11, rfl, h⟩ := qq
    show Gx l E mX3_then _ 14 M11 [some (.ref 0), some (.int p1), some (.int p2), none] [.int r11]
    exact Gx_iret (by decide +kernel) rfl rfl ⟨_, rfl, h⟩
def eX3_whatIs_0 : List xI := [(.iload_n 1, 1, 0, 0, 0), (.bipush 10, 2, 0, 0, (10))]
theorem kX3_whatIs_0 : xcode (xmb mX3_whatIs) (xmo mX3_whatIs) 0 eX3_whatIs_0 = true := by decide +kernel
def eX3_whatIs_15 : List xI := [(.iload_n 2, 1, 0, 0, 0)]
theorem kX3_whatIs_15 : xcode (xmb mX3_whatIs) (xmo mX3_whatIs) 15 eX3_whatIs_15 = true := by decide +kernel
def eX3_whatIs_31 : List xI := [(.iconst 0, 1, 0, 0, (0)), (.istore_n 3, 1, 0, 0, 0), (.iload_n 2, 1, 0, 0, 0)]
theorem kX3_whatIs_31 : xcode (xmb mX3_whatIs) (xmo mX3_whatIs) 31 eX3_whatIs_31 = true := by decide +kernel
def eX3_whatIs_41 : List xI := [(.bipush 9, 2, 0, 0, (9))]
theorem kX3_whatIs_41 : xcode (xmb mX3_whatIs) (xmo mX3_whatIs) 41 eX3_whatIs_41 = true := by decide +kernel
def eX3_whatIs_43 : List xI := [(.istore 4, 2, 0, 0, 0), (.iconst 0, 1, 0, 0, (0)), (.istore 5, 2, 0, 0, 0)]
theorem kX3_whatIs_43 : xcode (xmb mX3_whatIs) (xmo mX3_whatIs) 43 eX3_whatIs_43 = true := by decide +kernel
def eX3_whatIs_48 : List xI := [(.iload 5, 2, 0, 0, 0), (.iload 4, 2, 0, 0, 0)]
theorem kX3_whatIs_48 : xcode (xmb mX3_whatIs) (xmo mX3_whatIs) 48 eX3_whatIs_48 = true := by decide +kernel
def eX3_whatIs_134 : List xI := [(.iload_n 3, 1, 0, 0, 0)]
theorem kX3_whatIs_134 : xcode (xmb mX3_whatIs) (xmo mX3_whatIs) 134 eX3_whatIs_134 = true := by decide +kernel
def eX3_whatIs_55 : List xI := [(.aload_n 0, 1, 0, 0, 0), (.getfield 16, 3, 3, 1, 0), (.aload_n 0, 1, 0, 0, 0), (.getfield 10, 3, 3, 0, 0)]
theorem kX3_whatIs_55 : xcode (xmb mX3_whatIs) (xmo mX3_whatIs) 55 eX3_whatIs_55 = true := by decide +kernel
def eX3_whatIs_66 : List xI := [(.iload_n 2, 1, 0, 0, 0)]
theorem kX3_whatIs_66 : xcode (xmb mX3_whatIs) (xmo mX3_whatIs) 66 eX3_whatIs_66 = true := by decide +kernel
def eX3_whatIs_84 : List xI := [(.aload_n 0, 1, 0, 0, 0), (.getfield 16, 3, 3, 1, 0), (.getfield 91, 3, 2, 1, 0), (.iload_n 1, 1, 0, 0, 0), (.iload 5, 2, 0, 0, 0), (.iastore, 1, 0, 0, 0)]
theorem kX3_whatIs_84 : xcode (xmb mX3_whatIs) (xmo mX3_whatIs) 84 eX3_whatIs_84 = true := by decide +kernel
def eX3_whatIs_95 : List xI := [(.aload_n 0, 1, 0, 0, 0), (.getfield 33, 3, 3, 5, 0), (.aload_n 0, 1, 0, 0, 0), (.getfield 16, 3, 3, 1, 0), (.aload_n 0, 1, 0, 0, 0), (.getfield 57, 3, 3, 11, 0)]
theorem kX3_whatIs_95 : xcode (xmb mX3_whatIs) (xmo mX3_whatIs) 95 eX3_whatIs_95 = true := by decide +kernel
def eX3_whatIs_110 : List xI := [(.iload_n 3, 1, 0, 0, 0), (.aload_n 0, 1, 0, 0, 0)]
theorem kX3_whatIs_110 : xcode (xmb mX3_whatIs) (xmo mX3_whatIs) 110 eX3_whatIs_110 = true := by decide +kernel
def eX3_whatIs_125 : List xI := [(.iconst 0, 1, 0, 0, (0))]
theorem kX3_whatIs_125 : xcode (xmb mX3_whatIs) (xmo mX3_whatIs) 125 eX3_whatIs_125 = true := by decide +kernel
def eX3_whatIs_126 : List xI := [(.ior, 1, 0, 0, 0), (.istore_n 3, 1, 0, 0, 0), (.iinc 5 1, 3, 0, 0, (1))]
theorem kX3_whatIs_126 : xcode (xmb mX3_whatIs) (xmo mX3_whatIs) 126 eX3_whatIs_126 = true := by decide +kernel
def eX3_whatIs_118 : List xI := [(.iconst 1, 1, 0, 0, (1)), (.iload 5, 2, 0, 0, 0), (.ishl, 1, 0, 0, 0)]
theorem kX3_whatIs_118 : xcode (xmb mX3_whatIs) (xmo mX3_whatIs) 118 eX3_whatIs_118 = true := by decide +kernel
def eX3_whatIs_70 : List xI := [(.aload_n 0, 1, 0, 0, 0), (.getfield 16, 3, 3, 1, 0), (.getfield 88, 3, 2, 0, 0), (.iload_n 1, 1, 0, 0, 0), (.iload 5, 2, 0, 0, 0), (.iastore, 1, 0, 0, 0)]
theorem kX3_whatIs_70 : xcode (xmb mX3_whatIs) (xmo mX3_whatIs) 70 eX3_whatIs_70 = true := by decide +kernel
def eX3_whatIs_37 : List xI := [(.iconst 5, 1, 0, 0, (5))]
theorem kX3_whatIs_37 : xcode (xmb mX3_whatIs) (xmo mX3_whatIs) 37 eX3_whatIs_37 = true := by decide +kernel
def eX3_whatIs_19 : List xI := [(.iload_n 2, 1, 0, 0, 0), (.iconst 1, 1, 0, 0, (1))]
theorem kX3_whatIs_19 : xcode (xmb mX3_whatIs) (xmo mX3_whatIs) 19 eX3_whatIs_19 = true := by decide +kernel
def eX3_whatIs_24 : List xI := [(.aload_n 0, 1, 0, 0, 0), (.bipush (-2), 2, 0, 0, (-2))]
theorem kX3_whatIs_24 : xcode (xmb mX3_whatIs) (xmo mX3_whatIs) 24 eX3_whatIs_24 = true := by decide +kernel
def eX3_whatIs_9 : List xI := [(.aload_n 0, 1, 0, 0, 0), (.iconst (-1), 1, 0, 0, (-1))]
theorem kX3_whatIs_9 : xcode (xmb mX3_whatIs) (xmo mX3_whatIs) 9 eX3_whatIs_9 = true := by decide +kernel
def wX3_whatIs_126 (p1 : Int32) (p2 : Int32) (Q : Int32 → xM → Prop) (k48 : xM → Int32 → Int32 → Int32 → Prop) (M : xM) (a4 : Int32) (a5 : Int32) (s0 : Int32) (s1 : Int32) : Prop :=
    k48 M (s1 ||| s0) a4 (a5 + (1 : Int32))
set_option maxHeartbeats 4000000 in
set_option maxRecDepth 100000 in
theorem tX3_whatIs_126 {l : Launch} {E : xE} {p1 : Int32} {p2 : Int32} {Q : Int32 → xM → Prop} {k48 : xM → Int32 → Int32 → Int32 → Prop} (hk48 : ∀ (M : xM) (a3 : Int32) (a4 : Int32) (a5 : Int32), k48 M a3 a4 a5 → Gx l E mX3_whatIs (xRi Q) 48 M [some (.ref 0), some (.int p1), some (.int p2), some (.int a3), some (.int a4), some (.int a5)] []) (M : xM) (a4 : Int32) (a5 : Int32) (s0 : Int32) (s1 : Int32) (h : wX3_whatIs_126 p1 p2 Q k48 M a4 a5 s0 s1) : Gx l E mX3_whatIs (xRi Q) 126 M [some (.ref 0), some (.int p1), some (.int p2), none, some (.int a4), some (.int a5)] [.int s0, .int s1] := by
  unfold wX3_whatIs_126 at h
  refine Gx_run (es := eX3_whatIs_126) (P := []) (M' := M) (L' := [some (.ref 0), some (.int p1), some (.int p2), some (.int (s1 ||| s0)), some (.int a4), some (.int (a5 + (1 : Int32)))]) (st' := []) (pc' := 131) kX3_whatIs_126 rfl trivial rfl ?_
  refine Gx_goto (off := -83) (tgt := 48) (by decide +kernel) (by decide) ?_
  refine Gx_mask [true, true, true, true, true, true] (L' := [some (.ref 0), some (.int p1), some (.int p2), some (.int (s1 ||| s0)), some (.int a4), some (.int (a5 + (1 : Int32)))]) rfl ?_
  exact hk48 M (s1 ||| s0) a4 (a5 + (1 : Int32)) h
def wX3_whatIs_95 (p1 : Int32) (p2 : Int32) (Q : Int32 → xM → Prop) (k48 : xM → Int32 → Int32 → Int32 → Prop) (M : xM) (a3 : Int32) (a4 : Int32) (a5 : Int32) : Prop :=
    wX0_run M 22 8 (M 0 11) (fun M107 => wX3_rowIsAsked M107 (fun r112 M112 => (((r112 = 0) → (wX3_whatIs_126 p1 p2 Q k48 M112 a4 a5 (0 : Int32) a3)) ∧ ((¬ r112 = 0) → (wX3_whatIs_126 p1 p2 Q k48 M112 a4 a5 ((1 : Int32) <<< (a5 &&& 31)) a3)))))
set_option maxHeartbeats 4000000 in
set_option maxRecDepth 100000 in
theorem tX3_whatIs_95 {l : Launch} {E : xE} {p1 : Int32} {p2 : Int32} {Q : Int32 → xM → Prop} {k48 : xM → Int32 → Int32 → Int32 → Prop} (hk48 : ∀ (M : xM) (a3 : Int32) (a4 : Int32) (a5 : Int32), k48 M a3 a4 a5 → Gx l E mX3_whatIs (xRi Q) 48 M [some (.ref 0), some (.int p1), some (.int p2), some (.int a3), some (.int a4), some (.int a5)] []) (M : xM) (a3 : Int32) (a4 : Int32) (a5 : Int32) (h : wX3_whatIs_95 p1 p2 Q k48 M a3 a4 a5) : Gx l E mX3_whatIs (xRi Q) 95 M [some (.ref 0), some (.int p1), some (.int p2), some (.int a3), some (.int a4), some (.int a5)] [] := by
  unfold wX3_whatIs_95 at h
  refine Gx_run (es := eX3_whatIs_95) (P := [xkd 0 = 3, xkd 0 = 3, xkd 0 = 3]) (M' := M) (L' := [some (.ref 0), some (.int p1), some (.int p2), some (.int a3), some (.int a4), some (.int a5)]) (st' := [.int (M 0 11), .ref 8, .ref 22]) (pc' := 107) kX3_whatIs_95 rfl ⟨rfl, rfl, rfl, trivial⟩ rfl ?_
  refine Gx_callV (As := [.ref 8, .int (M 0 11)]) (by decide +kernel) ml_3_133 okX0_run mvX0_run rfl (by decide) (Nat.le_of_ble_eq_true rfl) rfl rfl rfl (tX0_run xChk_at22 xVol_at8 h) (fun rr M107 qq => ?_)
  obtain ⟨rfl, h⟩ := qq
  show Gx l E mX3_whatIs _ 110 M107 [some (.ref 0), some (.int p1), some (.int p2), some (.int a3), some (.int a4), some (.int a5)] []
  refine Gx_run (es := eX3_whatIs_110) (P := []) (M' := M107) (L' := [some (.ref 0), some (.int p1), some (.int p2), some (.int a3), some (.int a4), some (.int a5)]) (st' := [.ref 0, .int a3]) (pc' := 112) kX3_whatIs_110 rfl trivial rfl ?_
  refine Gx_callV (As := []) (by decide +kernel) ml_3_214 okX3_rowIsAsked mvX3_rowIsAsked rfl (by decide) (Nat.le_of_ble_eq_true rfl) rfl rfl rfl (tX3_rowIsAsked h) (fun rr M112 qq => ?_)
  obtain ⟨r112, rfl, h⟩ := qq
  show Gx l E mX3_whatIs _ 115 M112 [some (.ref 0), some (.int p1), some (.int p2), some (.int a3), some (.int a4), some (.int a5)] [.int r112, .int a3]
  refine Gx_if_eq (off := 10) (tgt := 125) (by decide +kernel) (by decide) (fun z => ?_) (fun z => ?_)
  · have h := h.1 z
    refine Gx_run (es := eX3_whatIs_125) (P := []) (M' := M112) (L' := [some (.ref 0), some (.int p1), some (.int p2), some (.int a3), some (.int a4), some (.int a5)]) (st' := [.int (0 : Int32), .int a3]) (pc' := 126) kX3_whatIs_125 rfl trivial rfl ?_
    refine Gx_mask [true, true, true, false, true, true] (L' := [some (.ref 0), some (.int p1), some (.int p2), none, some (.int a4), some (.int a5)]) rfl ?_
    exact tX3_whatIs_126  hk48 M112 a4 a5 (0 : Int32) a3 h
  · have h := h.2 z
    refine Gx_run (es := eX3_whatIs_118) (P := []) (M' := M112) (L' := [some (.ref 0), some (.int p1), some (.int p2), some (.int a3), some (.int a4), some (.int a5)]) (st' := [.int ((1 : Int32) <<< (a5 &&& 31)), .int a3]) (pc' := 122) kX3_whatIs_118 rfl trivial rfl ?_
    refine Gx_goto (off := 4) (tgt := 126) (by decide +kernel) (by decide) ?_
    refine Gx_mask [true, true, true, false, true, true] (L' := [some (.ref 0), some (.int p1), some (.int p2), none, some (.int a4), some (.int a5)]) rfl ?_
    exact tX3_whatIs_126  hk48 M112 a4 a5 ((1 : Int32) <<< (a5 &&& 31)) a3 h
def lX3_whatIs_48 (p1 : Int32) (p2 : Int32) (Q : Int32 → xM → Prop) : Nat → xM → Int32 → Int32 → Int32 → Prop
  | 0 => fun _ _ _ _ => False
  | n + 1 => let k48 := lX3_whatIs_48 p1 p2 Q n; fun M a3 a4 a5 =>
    (((a4 < a5) → (Q a3 M)) ∧ ((¬ a4 < a5) → (wX2_takeFrom M 8 1 (fun M63 => (((¬ p2 = 0) → ((vp_in p1 10) ∧ wX3_whatIs_95 p1 p2 Q k48 (xup M63 10 p1.toNatClampNeg a5) a3 a4 a5)) ∧ ((p2 = 0) → ((vp_in p1 10) ∧ wX3_whatIs_95 p1 p2 Q k48 (xup M63 9 p1.toNatClampNeg a5) a3 a4 a5)))))))
set_option maxHeartbeats 4000000 in
set_option maxRecDepth 100000 in
theorem tX3_whatIs_48 {l : Launch} {E : xE} {p1 : Int32} {p2 : Int32} {Q : Int32 → xM → Prop} (n : Nat) : ∀ (M : xM) (a3 : Int32) (a4 : Int32) (a5 : Int32), lX3_whatIs_48 p1 p2 Q n M a3 a4 a5 → Gx l E mX3_whatIs (xRi Q) 48 M [some (.ref 0), some (.int p1), some (.int p2), some (.int a3), some (.int a4), some (.int a5)] [] := by
  induction n with
  | zero => intro M a3 a4 a5 h; exact h.elim
  | succ n hk48 =>
      intro M a3 a4 a5 h
      unfold lX3_whatIs_48 at h
      dsimp only at h
      refine Gx_run (es := eX3_whatIs_48) (P := []) (M' := M) (L' := [some (.ref 0), some (.int p1), some (.int p2), some (.int a3), some (.int a4), some (.int a5)]) (st' := [.int a4, .int a5]) (pc' := 52) kX3_whatIs_48 rfl trivial rfl ?_
      refine Gx_icmp_gt (off := 82) (tgt := 134) (by decide +kernel) (by decide) (fun z => ?_) (fun z => ?_)
      · have h := h.1 z
        refine Gx_run (es := eX3_whatIs_134) (P := []) (M' := M) (L' := [some (.ref 0), some (.int p1), some (.int p2), some (.int a3), some (.int a4), some (.int a5)]) (st' := [.int a3]) (pc' := 135) kX3_whatIs_134 rfl trivial rfl ?_
        exact Gx_iret (by decide +kernel) rfl rfl ⟨_, rfl, h⟩
      · have h := h.2 z
        refine Gx_run (es := eX3_whatIs_55) (P := [xkd 0 = 3, xkd 0 = 3]) (M' := M) (L' := [some (.ref 0), some (.int p1), some (.int p2), some (.int a3), some (.int a4), some (.int a5)]) (st' := [.ref 1, .ref 8]) (pc' := 63) kX3_whatIs_55 rfl ⟨rfl, rfl, trivial⟩ rfl ?_
        refine Gx_callV (As := [.ref 1]) (by decide +kernel) ml_3_140 okX2_takeFrom mvX2_takeFrom rfl (by decide) (Nat.le_of_ble_eq_true rfl) rfl rfl rfl (tX2_takeFrom xVol_at8 xVol_at1 h) (fun rr M63 qq => ?_)
        obtain ⟨rfl, h⟩ := qq
        show Gx l E mX3_whatIs _ 66 M63 [some (.ref 0), some (.int p1), some (.int p2), some (.int a3), some (.int a4), some (.int a5)] []
        refine Gx_run (es := eX3_whatIs_66) (P := []) (M' := M63) (L' := [some (.ref 0), some (.int p1), some (.int p2), some (.int a3), some (.int a4), some (.int a5)]) (st' := [.int p2]) (pc' := 67) kX3_whatIs_66 rfl trivial rfl ?_
        refine Gx_if_ne (off := 17) (tgt := 84) (by decide +kernel) (by decide) (fun z => ?_) (fun z => ?_)
        · have h := h.1 z
          obtain ⟨g84_0, h⟩ := h
          refine Gx_run (es := eX3_whatIs_84) (P := [xkd 0 = 3, xkd 8 = 2, xkd 10 = 5, vp_in p1 (xln 10)]) (M' := (xup M63 10 p1.toNatClampNeg a5)) (L' := [some (.ref 0), some (.int p1), some (.int p2), some (.int a3), some (.int a4), some (.int a5)]) (st' := []) (pc' := 95) kX3_whatIs_84 rfl ⟨rfl, rfl, rfl, g84_0, trivial⟩ rfl ?_
          refine Gx_mask [true, true, true, true, true, true] (L' := [some (.ref 0), some (.int p1), some (.int p2), some (.int a3), some (.int a4), some (.int a5)]) rfl ?_
          exact tX3_whatIs_95  hk48 (xup M63 10 p1.toNatClampNeg a5) a3 a4 a5 h
        · have h := h.2 z
          obtain ⟨g70_0, h⟩ := h
          refine Gx_run (es := eX3_whatIs_70) (P := [xkd 0 = 3, xkd 8 = 2, xkd 9 = 5, vp_in p1 (xln 9)]) (M' := (xup M63 9 p1.toNatClampNeg a5)) (L' := [some (.ref 0), some (.int p1), some (.int p2), some (.int a3), some (.int a4), some (.int a5)]) (st' := []) (pc' := 81) kX3_whatIs_70 rfl ⟨rfl, rfl, rfl, g70_0, trivial⟩ rfl ?_
          refine Gx_goto (off := 14) (tgt := 95) (by decide +kernel) (by decide) ?_
          refine Gx_mask [true, true, true, true, true, true] (L' := [some (.ref 0), some (.int p1), some (.int p2), some (.int a3), some (.int a4), some (.int a5)]) rfl ?_
          exact tX3_whatIs_95  hk48 (xup M63 9 p1.toNatClampNeg a5) a3 a4 a5 h
def wX3_whatIs_43 (p1 : Int32) (p2 : Int32) (Q : Int32 → xM → Prop) (M : xM) (s0 : Int32) : Prop :=
    (∃ n : Nat, lX3_whatIs_48 p1 p2 Q n M (0 : Int32) s0 (0 : Int32))
set_option maxHeartbeats 4000000 in
set_option maxRecDepth 100000 in
theorem tX3_whatIs_43 {l : Launch} {E : xE} {p1 : Int32} {p2 : Int32} {Q : Int32 → xM → Prop} (M : xM) (s0 : Int32) (h : wX3_whatIs_43 p1 p2 Q M s0) : Gx l E mX3_whatIs (xRi Q) 43 M [some (.ref 0), some (.int p1), some (.int p2), some (.int (0 : Int32)), none, none] [.int s0] := by
  unfold wX3_whatIs_43 at h
  refine Gx_run (es := eX3_whatIs_43) (P := []) (M' := M) (L' := [some (.ref 0), some (.int p1), some (.int p2), some (.int (0 : Int32)), some (.int s0), some (.int (0 : Int32))]) (st' := []) (pc' := 48) kX3_whatIs_43 rfl trivial rfl ?_
  refine Gx_mask [true, true, true, true, true, true] (L' := [some (.ref 0), some (.int p1), some (.int p2), some (.int (0 : Int32)), some (.int s0), some (.int (0 : Int32))]) rfl ?_
  obtain ⟨n, h⟩ := h
  exact tX3_whatIs_48  n M (0 : Int32) s0 (0 : Int32) h
def wX3_whatIs_31 (p1 : Int32) (p2 : Int32) (Q : Int32 → xM → Prop) (M : xM) : Prop :=
    (((¬ p2 = 0) → (wX3_whatIs_43 p1 p2 Q M (9 : Int32))) ∧ ((p2 = 0) → (wX3_whatIs_43 p1 p2 Q M (5 : Int32))))
set_option maxHeartbeats 4000000 in
set_option maxRecDepth 100000 in
theorem tX3_whatIs_31 {l : Launch} {E : xE} {p1 : Int32} {p2 : Int32} {Q : Int32 → xM → Prop} (M : xM) (h : wX3_whatIs_31 p1 p2 Q M ) : Gx l E mX3_whatIs (xRi Q) 31 M [some (.ref 0), some (.int p1), some (.int p2), none, none, none] [] := by
  unfold wX3_whatIs_31 at h
  refine Gx_run (es := eX3_whatIs_31) (P := []) (M' := M) (L' := [some (.ref 0), some (.int p1), some (.int p2), some (.int (0 : Int32)), none, none]) (st' := [.int p2]) (pc' := 34) kX3_whatIs_31 rfl trivial rfl ?_
  refine Gx_if_ne (off := 7) (tgt := 41) (by decide +kernel) (by decide) (fun z => ?_) (fun z => ?_)
  · have h := h.1 z
    refine Gx_run (es := eX3_whatIs_41) (P := []) (M' := M) (L' := [some (.ref 0), some (.int p1), some (.int p2), some (.int (0 : Int32)), none, none]) (st' := [.int (9 : Int32)]) (pc' := 43) kX3_whatIs_41 rfl trivial rfl ?_
    refine Gx_mask [true, true, true, true, false, false] (L' := [some (.ref 0), some (.int p1), some (.int p2), some (.int (0 : Int32)), none, none]) rfl ?_
    exact tX3_whatIs_43  M (9 : Int32) h
  · have h := h.2 z
    refine Gx_run (es := eX3_whatIs_37) (P := []) (M' := M) (L' := [some (.ref 0), some (.int p1), some (.int p2), some (.int (0 : Int32)), none, none]) (st' := [.int (5 : Int32)]) (pc' := 38) kX3_whatIs_37 rfl trivial rfl ?_
    refine Gx_goto (off := 5) (tgt := 43) (by decide +kernel) (by decide) ?_
    refine Gx_mask [true, true, true, true, false, false] (L' := [some (.ref 0), some (.int p1), some (.int p2), some (.int (0 : Int32)), none, none]) rfl ?_
    exact tX3_whatIs_43  M (5 : Int32) h
def wX3_whatIs (M : xM) (p1 : Int32) (p2 : Int32) (Q : Int32 → xM → Prop) : Prop :=
    wX3_isOutside M p1 (10 : Int32) (fun r3 M3 => (((r3 = 0) → ((((p2 = 0) → (wX3_whatIs_31 p1 p2 Q M3)) ∧ ((¬ p2 = 0) → ((((p2 = (1 : Int32)) → (wX3_whatIs_31 p1 p2 Q M3)) ∧ ((¬ p2 = (1 : Int32)) → (wX3_refusal M3 (-2 : Int32) (fun r27 M27 => Q r27 M27))))))))) ∧ ((¬ r3 = 0) → (wX3_refusal M3 (-1 : Int32) (fun r11 M11 => Q r11 M11)))))
set_option maxHeartbeats 4000000 in
set_option maxRecDepth 100000 in
theorem tX3_whatIs {l : Launch} {E : xE} {M : xM} {p1 : Int32} {p2 : Int32} {Q : Int32 → xM → Prop} (h : wX3_whatIs M p1 p2 Q) : Ct l E mX3_whatIs [.ref 0, .int p1, .int p2] M (xRi Q) := by
  refine Ct_of (by decide +kernel) rfl (Nat.le_of_ble_eq_true rfl) ?_
  unfold wX3_whatIs at h
  show Gx l E mX3_whatIs (xRi Q) 0 M [some (.ref 0), some (.int p1), some (.int p2), none, none, none] []
  refine Gx_run (es := eX3_whatIs_0) (P := []) (M' := M) (L' := [some (.ref 0), some (.int p1), some (.int p2), none, none, none]) (st' := [.int (10 : Int32), .int p1]) (pc' := 3) kX3_whatIs_0 rfl trivial rfl ?_
  refine Gx_callS (As := [.int p1, .int (10 : Int32)]) (by decide +kernel) ml_3_84 okX3_isOutside mvX3_isOutside rfl (by decide) (Nat.le_of_ble_eq_true rfl) (tX3_isOutside h) (fun rr M3 qq => ?_)
  obtain ⟨r3, rfl, h⟩ := qq
  show Gx l E mX3_whatIs _ 6 M3 [some (.ref 0), some (.int p1), some (.int p2), none, none, none] [.int r3]
  refine Gx_if_eq (off := 9) (tgt := 15) (by decide +kernel) (by decide) (fun z => ?_) (fun z => ?_)
  · have h := h.1 z
    refine Gx_run (es := eX3_whatIs_15) (P := []) (M' := M3) (L' := [some (.ref 0), some (.int p1), some (.int p2), none, none, none]) (st' := [.int p2]) (pc' := 16) kX3_whatIs_15 rfl trivial rfl ?_
    refine Gx_if_eq (off := 15) (tgt := 31) (by decide +kernel) (by decide) (fun z => ?_) (fun z => ?_)
    · have h := h.1 z
      refine Gx_mask [true, true, true, false, false, false] (L' := [some (.ref 0), some (.int p1), some (.int p2), none, none, none]) rfl ?_
      exact tX3_whatIs_31  M3 h
    · have h := h.2 z
      refine Gx_run (es := eX3_whatIs_19) (P := []) (M' := M3) (L' := [some (.ref 0), some (.int p1), some (.int p2), none, none, none]) (st' := [.int (1 : Int32), .int p2]) (pc' := 21) kX3_whatIs_19 rfl trivial rfl ?_
      refine Gx_icmp_eq (off := 10) (tgt := 31) (by decide +kernel) (by decide) (fun z => ?_) (fun z => ?_)
      · have h := h.1 z
        refine Gx_mask [true, true, true, false, false, false] (L' := [some (.ref 0), some (.int p1), some (.int p2), none, none, none]) rfl ?_
        exact tX3_whatIs_31  M3 h
      · have h := h.2 z
        refine Gx_run (es := eX3_whatIs_24) (P := []) (M' := M3) (L' := [some (.ref 0), some (.int p1), some (.int p2), none, none, none]) (st' := [.int (-2 : Int32), .ref 0]) (pc' := 27) kX3_whatIs_24 rfl trivial rfl ?_
        refine Gx_callV (As := [.int (-2 : Int32)]) (by decide +kernel) ml_3_63 okX3_refusal mvX3_refusal rfl (by decide) (Nat.le_of_ble_eq_true rfl) rfl rfl rfl (tX3_refusal h) (fun rr M27 qq => ?_)
        obtain ⟨r27, rfl, h⟩ := qq
        show Gx l E mX3_whatIs _ 30 M27 [some (.ref 0), some (.int p1), some (.int p2), none, none, none] [.int r27]
        exact Gx_iret (by decide +kernel) rfl rfl ⟨_, rfl, h⟩
  · have h := h.2 z
    refine Gx_run (es := eX3_whatIs_9) (P := []) (M' := M3) (L' := [some (.ref 0), some (.int p1), some (.int p2), none, none, none]) (st' := [.int (-1 : Int32), .ref 0]) (pc' := 11) kX3_whatIs_9 rfl trivial rfl ?_
    refine Gx_callV (As := [.int (-1 : Int32)]) (by decide +kernel) ml_3_63 okX3_refusal mvX3_refusal rfl (by decide) (Nat.le_of_ble_eq_true rfl) rfl rfl rfl (tX3_refusal h) (fun rr M11 qq => ?_)
    obtain ⟨r11, rfl, h⟩ := qq
    show Gx l E mX3_whatIs _ 14 M11 [some (.ref 0), some (.int p1), some (.int p2), none, none, none] [.int r11]
    exact Gx_iret (by decide +kernel) rfl rfl ⟨_, rfl, h⟩
