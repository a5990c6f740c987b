/-! walks: X4_connects, X4_count, X4_twoDigits, X0_run, X1_fits, X1_kindAt, X1_placeOfWrongStatement -/
def eX4_connects_0 : List xI := [(.aload_n 0, 1, 0, 0, 0)]
theorem kX4_connects_0 : xcode (xmb mX4_connects) (xmo mX4_connects) 0 eX4_connects_0 = true := by decide +kernel
def eX4_connects_4 : List xI := [(.istore_n 1, 1, 0, 0, 0)]
theorem kX4_connects_4 : xcode (xmb mX4_connects) (xmo mX4_connects) 4 eX4_connects_4 = true := by decide +kernel
def eX4_connects_5 : List xI := [(.iload_n 1, 1, 0, 0, 0), (.iconst (-1), 1, 0, 0, (-1))]
theorem kX4_connects_5 : xcode (xmb mX4_connects) (xmo mX4_connects) 5 eX4_connects_5 = true := by decide +kernel
def eX4_connects_85 : List xI := [(.iconst 0, 1, 0, 0, (0)), (.istore_n 1, 1, 0, 0, 0)]
theorem kX4_connects_85 : xcode (xmb mX4_connects) (xmo mX4_connects) 85 eX4_connects_85 = true := by decide +kernel
def eX4_connects_87 : List xI := [(.iload_n 1, 1, 0, 0, 0), (.bipush 10, 2, 0, 0, (10))]
theorem kX4_connects_87 : xcode (xmb mX4_connects) (xmo mX4_connects) 87 eX4_connects_87 = true := by decide +kernel
def eX4_connects_93 : List xI := [(.aload_n 0, 1, 0, 0, 0), (.bipush 12, 2, 0, 0, (12))]
theorem kX4_connects_93 : xcode (xmb mX4_connects) (xmo mX4_connects) 93 eX4_connects_93 = true := by decide +kernel
def eX4_connects_102 : List xI := [(.iload_n 1, 1, 0, 0, 0)]
theorem kX4_connects_102 : xcode (xmb mX4_connects) (xmo mX4_connects) 102 eX4_connects_102 = true := by decide +kernel
def eX4_connects_115 : List xI := [(.iconst 0, 1, 0, 0, (0))]
theorem kX4_connects_115 : xcode (xmb mX4_connects) (xmo mX4_connects) 115 eX4_connects_115 = true := by decide +kernel
def eX4_connects_127 : List xI := [(.istore_n 2, 1, 0, 0, 0), (.aload_n 0, 1, 0, 0, 0), (.iload_n 1, 1, 0, 0, 0)]
theorem kX4_connects_127 : xcode (xmb mX4_connects) (xmo mX4_connects) 127 eX4_connects_127 = true := by decide +kernel
def eX4_connects_165 : List xI := [(.iinc 1 1, 3, 0, 0, (1))]
theorem kX4_connects_165 : xcode (xmb mX4_connects) (xmo mX4_connects) 165 eX4_connects_165 = true := by decide +kernel
def eX4_connects_136 : List xI := [(.aload_n 0, 1, 0, 0, 0), (.getfield 7, 3, 4, 1, 0), (.bipush 20, 2, 0, 0, (20)), (.iload_n 1, 1, 0, 0, 0), (.iadd, 1, 0, 0, 0), (.iaload, 1, 0, 0, 0), (.iload_n 2, 1, 0, 0, 0)]
theorem kX4_connects_136 : xcode (xmb mX4_connects) (xmo mX4_connects) 136 eX4_connects_136 = true := by decide +kernel
def eX4_connects_149 : List xI := [(.aload_n 0, 1, 0, 0, 0), (.bipush 12, 2, 0, 0, (12)), (.iload_n 1, 1, 0, 0, 0), (.aload_n 0, 1, 0, 0, 0), (.bipush 20, 2, 0, 0, (20)), (.iload_n 1, 1, 0, 0, 0), (.iadd, 1, 0, 0, 0), (.iload_n 2, 1, 0, 0, 0)]
theorem kX4_connects_149 : xcode (xmb mX4_connects) (xmo mX4_connects) 149 eX4_connects_149 = true := by decide +kernel
def eX4_connects_106 : List xI := [(.aload_n 0, 1, 0, 0, 0), (.iload_n 1, 1, 0, 0, 0)]
theorem kX4_connects_106 : xcode (xmb mX4_connects) (xmo mX4_connects) 106 eX4_connects_106 = true := by decide +kernel
def eX4_connects_111 : List xI := [(.iconst (-1), 1, 0, 0, (-1))]
theorem kX4_connects_111 : xcode (xmb mX4_connects) (xmo mX4_connects) 111 eX4_connects_111 = true := by decide +kernel
def eX4_connects_119 : List xI := [(.aload_n 0, 1, 0, 0, 0), (.iload_n 1, 1, 0, 0, 0)]
theorem kX4_connects_119 : xcode (xmb mX4_connects) (xmo mX4_connects) 119 eX4_connects_119 = true := by decide +kernel
def eX4_connects_124 : List xI := [(.bipush 6, 2, 0, 0, (6)), (.idiv, 1, 0, 0, 0)]
theorem kX4_connects_124 : xcode (xmb mX4_connects) (xmo mX4_connects) 124 eX4_connects_124 = true := by decide +kernel
def eX4_connects_10 : List xI := [(.aload_n 0, 1, 0, 0, 0), (.iload_n 1, 1, 0, 0, 0)]
theorem kX4_connects_10 : xcode (xmb mX4_connects) (xmo mX4_connects) 10 eX4_connects_10 = true := by decide +kernel
def eX4_connects_15 : List xI := [(.istore_n 2, 1, 0, 0, 0), (.iload_n 2, 1, 0, 0, 0), (.iconst (-1), 1, 0, 0, (-1))]
theorem kX4_connects_15 : xcode (xmb mX4_connects) (xmo mX4_connects) 15 eX4_connects_15 = true := by decide +kernel
def eX4_connects_42 : List xI := [(.aload_n 0, 1, 0, 0, 0), (.iload_n 1, 1, 0, 0, 0)]
theorem kX4_connects_42 : xcode (xmb mX4_connects) (xmo mX4_connects) 42 eX4_connects_42 = true := by decide +kernel
def eX4_connects_47 : List xI := [(.istore_n 3, 1, 0, 0, 0), (.aload_n 0, 1, 0, 0, 0), (.iload_n 3, 1, 0, 0, 0), (.bipush 6, 2, 0, 0, (6))]
theorem kX4_connects_47 : xcode (xmb mX4_connects) (xmo mX4_connects) 47 eX4_connects_47 = true := by decide +kernel
def eX4_connects_60 : List xI := [(.bipush 10, 2, 0, 0, (10))]
theorem kX4_connects_60 : xcode (xmb mX4_connects) (xmo mX4_connects) 60 eX4_connects_60 = true := by decide +kernel
def eX4_connects_62 : List xI := [(.iload_n 1, 1, 0, 0, 0), (.iload_n 3, 1, 0, 0, 0), (.bipush 6, 2, 0, 0, (6))]
theorem kX4_connects_62 : xcode (xmb mX4_connects) (xmo mX4_connects) 62 eX4_connects_62 = true := by decide +kernel
def eX4_connects_73 : List xI := [(.iload_n 3, 1, 0, 0, 0)]
theorem kX4_connects_73 : xcode (xmb mX4_connects) (xmo mX4_connects) 73 eX4_connects_73 = true := by decide +kernel
def eX4_connects_77 : List xI := [(.aload_n 0, 1, 0, 0, 0)]
theorem kX4_connects_77 : xcode (xmb mX4_connects) (xmo mX4_connects) 77 eX4_connects_77 = true := by decide +kernel
def eX4_connects_81 : List xI := [(.istore_n 1, 1, 0, 0, 0)]
theorem kX4_connects_81 : xcode (xmb mX4_connects) (xmo mX4_connects) 81 eX4_connects_81 = true := by decide +kernel
def eX4_connects_69 : List xI := [(.iconst 0, 1, 0, 0, (0))]
theorem kX4_connects_69 : xcode (xmb mX4_connects) (xmo mX4_connects) 69 eX4_connects_69 = true := by decide +kernel
def eX4_connects_55 : List xI := [(.bipush 11, 2, 0, 0, (11))]
theorem kX4_connects_55 : xcode (xmb mX4_connects) (xmo mX4_connects) 55 eX4_connects_55 = true := by decide +kernel
def eX4_connects_21 : List xI := [(.aload_n 0, 1, 0, 0, 0), (.bipush 9, 2, 0, 0, (9)), (.iload_n 1, 1, 0, 0, 0), (.iload_n 2, 1, 0, 0, 0), (.bipush 6, 2, 0, 0, (6)), (.idiv, 1, 0, 0, 0)]
theorem kX4_connects_21 : xcode (xmb mX4_connects) (xmo mX4_connects) 21 eX4_connects_21 = true := by decide +kernel
def eX4_connects_32 : List xI := [(.aload_n 0, 1, 0, 0, 0), (.getfield 7, 3, 4, 1, 0), (.bipush 60, 2, 0, 0, (60)), (.iload_n 2, 1, 0, 0, 0), (.iadd, 1, 0, 0, 0), (.iconst (-1), 1, 0, 0, (-1)), (.iastore, 1, 0, 0, 0)]
theorem kX4_connects_32 : xcode (xmb mX4_connects) (xmo mX4_connects) 32 eX4_connects_32 = true := by decide +kernel
def wX4_connects_171 (Q : xM → Prop) (M : xM) : Prop :=
    Q M
set_option maxHeartbeats 4000000 in
set_option maxRecDepth 100000 in
theorem tX4_connects_171 {l : Launch} {E : xE} {Q : xM → Prop} (M : xM) (h : wX4_connects_171  Q M ) : Gx l E mX4_connects (xRv Q) 171 M [none, none, none, none] [] := by
  unfold wX4_connects_171 at h
  exact Gx_vret (by decide +kernel) rfl ⟨rfl, h⟩
def wX4_connects_165 (Q : xM → Prop) (k87 : xM → Int32 → Prop) (M : xM) (a1 : Int32) : Prop :=
    k87 M (a1 + (1 : Int32))
set_option maxHeartbeats 4000000 in
set_option maxRecDepth 100000 in
theorem tX4_connects_165 {l : Launch} {E : xE} {Q : xM → Prop} {k87 : xM → Int32 → Prop} (hk87 : ∀ (M : xM) (a1 : Int32), k87 M a1 → Gx l E mX4_connects (xRv Q) 87 M [some (.ref 50), some (.int a1), none, none] []) (M : xM) (a1 : Int32) (h : wX4_connects_165  Q k87 M a1) : Gx l E mX4_connects (xRv Q) 165 M [some (.ref 50), some (.int a1), none, none] [] := by
  unfold wX4_connects_165 at h
  refine Gx_run (es := eX4_connects_165) (P := []) (M' := M) (L' := [some (.ref 50), some (.int (a1 + (1 : Int32))), none, none]) (st' := []) (pc' := 168) kX4_connects_165 rfl trivial rfl ?_
  refine Gx_goto (off := -81) (tgt := 87) (by decide +kernel) (by decide) ?_
  refine Gx_mask [true, true, false, false] (L' := [some (.ref 50), some (.int (a1 + (1 : Int32))), none, none]) rfl ?_
  exact hk87 M (a1 + (1 : Int32)) h
def wX4_connects_127 (Q : xM → Prop) (k87 : xM → Int32 → Prop) (M : xM) (a1 : Int32) (s0 : Int32) : Prop :=
    wX4_isDirectory M a1 (fun r130 M130 => (((r130 = 0) → (wX4_connects_165  Q k87 M130 a1)) ∧ ((¬ r130 = 0) → ((vp_in ((20 : Int32) + a1) 147) ∧ ((((M130 51 ((20 : Int32) + a1).toNatClampNeg) = s0) → (wX4_connects_165  Q k87 M130 a1)) ∧ ((¬ (M130 51 ((20 : Int32) + a1).toNatClampNeg) = s0) → (wX4_becomes M130 ((20 : Int32) + a1) s0 (fun r159 M159 => wX4_asks M159 (12 : Int32) a1 r159 (fun M162 => wX4_connects_165  Q k87 M162 a1)))))))))
set_option maxHeartbeats 4000000 in
set_option maxRecDepth 100000 in
theorem tX4_connects_127 {l : Launch} {E : xE} {Q : xM → Prop} {k87 : xM → Int32 → Prop} (hk87 : ∀ (M : xM) (a1 : Int32), k87 M a1 → Gx l E mX4_connects (xRv Q) 87 M [some (.ref 50), some (.int a1), none, none] []) (M : xM) (a1 : Int32) (s0 : Int32) (h : wX4_connects_127  Q k87 M a1 s0) : Gx l E mX4_connects (xRv Q) 127 M [some (.ref 50), some (.int a1), none, none] [.int s0] := by
  unfold wX4_connects_127 at h
  refine Gx_run (es := eX4_connects_127) (P := []) (M' := M) (L' := [some (.ref 50), some (.int a1), some (.int s0), none]) (st' := [.int a1, .ref 50]) (pc' := 130) kX4_connects_127 rfl trivial rfl ?_
  refine Gx_callV (As := [.int a1]) (by decide +kernel) ml_4_152 okX4_isDirectory mvX4_isDirectory rfl (by decide) (Nat.le_of_ble_eq_true rfl) rfl rfl rfl (tX4_isDirectory h) (fun rr M130 qq => ?_)
  obtain ⟨r130, rfl, h⟩ := qq
  show Gx l E mX4_connects _ 133 M130 [some (.ref 50), some (.int a1), some (.int s0), none] [.int r130]
  refine Gx_if_eq (off := 32) (tgt := 165) (by decide +kernel) (by decide) (fun z => ?_) (fun z => ?_)
  · have h := h.1 z
    refine Gx_mask [true, true, false, false] (L' := [some (.ref 50), some (.int a1), none, none]) rfl ?_
    exact tX4_connects_165  hk87 M130 a1 h
  · have h := h.2 z
    obtain ⟨g136_0, h⟩ := h
    refine Gx_run (es := eX4_connects_136) (P := [xkd 50 = 4, xkd 51 = 5, vp_in ((20 : Int32) + a1) (xln 51)]) (M' := M130) (L' := [some (.ref 50), some (.int a1), some (.int s0), none]) (st' := [.int s0, .int (M130 51 ((20 : Int32) + a1).toNatClampNeg)]) (pc' := 146) kX4_connects_136 rfl ⟨rfl, rfl, g136_0, trivial⟩ rfl ?_
    refine Gx_icmp_eq (off := 19) (tgt := 165) (by decide +kernel) (by decide) (fun z => ?_) (fun z => ?_)
    · have h := h.1 z
      refine Gx_mask [true, true, false, false] (L' := [some (.ref 50), some (.int a1), none, none]) rfl ?_
      exact tX4_connects_165  hk87 M130 a1 h
    · have h := h.2 z
      refine Gx_run (es := eX4_connects_149) (P := []) (M' := M130) (L' := [some (.ref 50), some (.int a1), some (.int s0), none]) (st' := [.int s0, .int ((20 : Int32) + a1), .ref 50, .int a1, .int (12 : Int32), .ref 50]) (pc' := 159) kX4_connects_149 rfl trivial rfl ?_
      refine Gx_callV (As := [.int ((20 : Int32) + a1), .int s0]) (by decide +kernel) ml_4_130 okX4_becomes mvX4_becomes rfl (by decide) (Nat.le_of_ble_eq_true rfl) rfl rfl rfl (tX4_becomes h) (fun rr M159 qq => ?_)
      obtain ⟨r159, rfl, h⟩ := qq
      show Gx l E mX4_connects _ 162 M159 [some (.ref 50), some (.int a1), some (.int s0), none] [.int r159, .int a1, .int (12 : Int32), .ref 50]
      refine Gx_callV (As := [.int (12 : Int32), .int a1, .int r159]) (by decide +kernel) ml_4_136 okX4_asks mvX4_asks rfl (by decide) (Nat.le_of_ble_eq_true rfl) rfl rfl rfl (tX4_asks h) (fun rr M162 qq => ?_)
      obtain ⟨rfl, h⟩ := qq
      show Gx l E mX4_connects _ 165 M162 [some (.ref 50), some (.int a1), some (.int s0), none] []
      refine Gx_mask [true, true, false, false] (L' := [some (.ref 50), some (.int a1), none, none]) rfl ?_
      exact tX4_connects_165  hk87 M162 a1 h
def wX4_connects_115 (Q : xM → Prop) (k87 : xM → Int32 → Prop) (M : xM) (a1 : Int32) : Prop :=
    wX4_connects_127  Q k87 M a1 (0 : Int32)
set_option maxHeartbeats 4000000 in
set_option maxRecDepth 100000 in
theorem tX4_connects_115 {l : Launch} {E : xE} {Q : xM → Prop} {k87 : xM → Int32 → Prop} (hk87 : ∀ (M : xM) (a1 : Int32), k87 M a1 → Gx l E mX4_connects (xRv Q) 87 M [some (.ref 50), some (.int a1), none, none] []) (M : xM) (a1 : Int32) (h : wX4_connects_115  Q k87 M a1) : Gx l E mX4_connects (xRv Q) 115 M [some (.ref 50), some (.int a1), none, none] [] := by
  unfold wX4_connects_115 at h
  refine Gx_run (es := eX4_connects_115) (P := []) (M' := M) (L' := [some (.ref 50), some (.int a1), none, none]) (st' := [.int (0 : Int32)]) (pc' := 116) kX4_connects_115 rfl trivial rfl ?_
  refine Gx_goto (off := 11) (tgt := 127) (by decide +kernel) (by decide) ?_
  refine Gx_mask [true, true, false, false] (L' := [some (.ref 50), some (.int a1), none, none]) rfl ?_
  exact tX4_connects_127  hk87 M a1 (0 : Int32) h
def lX4_connects_87 (Q : xM → Prop) : Nat → xM → Int32 → Prop
  | 0 => fun _ _ => False
  | n + 1 => let k87 := lX4_connects_87  Q n; fun M a1 =>
    ((((10 : Int32) ≤ a1) → (wX4_connects_171  Q M)) ∧ ((¬ (10 : Int32) ≤ a1) → (wX4_isRefused M (12 : Int32) (fun r96 M96 => (((¬ r96 = 0) → (wX4_connects_171  Q M96)) ∧ ((r96 = 0) → ((((a1 = 0) → (wX4_connects_115  Q k87 M96 a1)) ∧ ((¬ a1 = 0) → (wX4_entryTo M96 a1 (fun r108 M108 => (((¬ r108 = (-1 : Int32)) → (wX4_entryTo M108 a1 (fun r121 M121 => wX4_connects_127  Q k87 M121 a1 (r121 / (6 : Int32))))) ∧ ((r108 = (-1 : Int32)) → (wX4_connects_115  Q k87 M108 a1))))))))))))))
set_option maxHeartbeats 4000000 in
set_option maxRecDepth 100000 in
theorem tX4_connects_87 {l : Launch} {E : xE} {Q : xM → Prop} (n : Nat) : ∀ (M : xM) (a1 : Int32), lX4_connects_87  Q n M a1 → Gx l E mX4_connects (xRv Q) 87 M [some (.ref 50), some (.int a1), none, none] [] := by
  induction n with
  | zero => intro M a1 h; exact h.elim
  | succ n hk87 =>
      intro M a1 h
      unfold lX4_connects_87 at h
      dsimp only at h
      refine Gx_run (es := eX4_connects_87) (P := []) (M' := M) (L' := [some (.ref 50), some (.int a1), none, none]) (st' := [.int (10 : Int32), .int a1]) (pc' := 90) kX4_connects_87 rfl trivial rfl ?_
      refine Gx_icmp_ge (off := 81) (tgt := 171) (by decide +kernel) (by decide) (fun z => ?_) (fun z => ?_)
      · have h := h.1 z
        refine Gx_mask [false, false, false, false] (L' := [none, none, none, none]) rfl ?_
        exact tX4_connects_171  M h
      · have h := h.2 z
        refine Gx_run (es := eX4_connects_93) (P := []) (M' := M) (L' := [some (.ref 50), some (.int a1), none, none]) (st' := [.int (12 : Int32), .ref 50]) (pc' := 96) kX4_connects_93 rfl trivial rfl ?_
        refine Gx_callV (As := [.int (12 : Int32)]) (by decide +kernel) ml_4_140 okX4_isRefused mvX4_isRefused rfl (by decide) (Nat.le_of_ble_eq_true rfl) rfl rfl rfl (tX4_isRefused h) (fun rr M96 qq => ?_)
        obtain ⟨r96, rfl, h⟩ := qq
        show Gx l E mX4_connects _ 99 M96 [some (.ref 50), some (.int a1), none, none] [.int r96]
        refine Gx_if_ne (off := 72) (tgt := 171) (by decide +kernel) (by decide) (fun z => ?_) (fun z => ?_)
        · have h := h.1 z
          refine Gx_mask [false, false, false, false] (L' := [none, none, none, none]) rfl ?_
          exact tX4_connects_171  M96 h
        · have h := h.2 z
          refine Gx_run (es := eX4_connects_102) (P := []) (M' := M96) (L' := [some (.ref 50), some (.int a1), none, none]) (st' := [.int a1]) (pc' := 103) kX4_connects_102 rfl trivial rfl ?_
          refine Gx_if_eq (off := 12) (tgt := 115) (by decide +kernel) (by decide) (fun z => ?_) (fun z => ?_)
          · have h := h.1 z
            refine Gx_mask [true, true, false, false] (L' := [some (.ref 50), some (.int a1), none, none]) rfl ?_
            exact tX4_connects_115  hk87 M96 a1 h
          · have h := h.2 z
            refine Gx_run (es := eX4_connects_106) (P := []) (M' := M96) (L' := [some (.ref 50), some (.int a1), none, none]) (st' := [.int a1, .ref 50]) (pc' := 108) kX4_connects_106 rfl trivial rfl ?_
            refine Gx_callV (As := [.int a1]) (by decide +kernel) ml_4_175 okX4_entryTo mvX4_entryTo rfl (by decide) (Nat.le_of_ble_eq_true rfl) rfl rfl rfl (tX4_entryTo h) (fun rr M108 qq => ?_)
            obtain ⟨r108, rfl, h⟩ := qq
            show Gx l E mX4_connects _ 111 M108 [some (.ref 50), some (.int a1), none, none] [.int r108]
            refine Gx_run (es := eX4_connects_111) (P := []) (M' := M108) (L' := [some (.ref 50), some (.int a1), none, none]) (st' := [.int (-1 : Int32), .int r108]) (pc' := 112) kX4_connects_111 rfl trivial rfl ?_
            refine Gx_icmp_ne (off := 7) (tgt := 119) (by decide +kernel) (by decide) (fun z => ?_) (fun z => ?_)
            · have h := h.1 z
              refine Gx_run (es := eX4_connects_119) (P := []) (M' := M108) (L' := [some (.ref 50), some (.int a1), none, none]) (st' := [.int a1, .ref 50]) (pc' := 121) kX4_connects_119 rfl trivial rfl ?_
              refine Gx_callV (As := [.int a1]) (by decide +kernel) ml_4_175 okX4_entryTo mvX4_entryTo rfl (by decide) (Nat.le_of_ble_eq_true rfl) rfl rfl rfl (tX4_entryTo h) (fun rr M121 qq => ?_)
              obtain ⟨r121, rfl, h⟩ := qq
              show Gx l E mX4_connects _ 124 M121 [some (.ref 50), some (.int a1), none, none] [.int r121]
              refine Gx_run (es := eX4_connects_124) (P := [¬ (6 : Int32) = 0]) (M' := M121) (L' := [some (.ref 50), some (.int a1), none, none]) (st' := [.int (r121 / (6 : Int32))]) (pc' := 127) kX4_connects_124 rfl ⟨(by decide), trivial⟩ rfl ?_
              refine Gx_mask [true, true, false, false] (L' := [some (.ref 50), some (.int a1), none, none]) rfl ?_
              exact tX4_connects_127  hk87 M121 a1 (r121 / (6 : Int32)) h
            · have h := h.2 z
              refine Gx_mask [true, true, false, false] (L' := [some (.ref 50), some (.int a1), none, none]) rfl ?_
              exact tX4_connects_115  hk87 M108 a1 h
def wX4_connects_74 (Q : xM → Prop) (k5 : xM → Int32 → Prop) (M : xM) (s0 : Int32) (s1 : Int32) (s2 : Int32) : Prop :=
    wX4_asks M s2 s1 s0 (fun M74 => wX4_lone M74 (fun r78 M78 => k5 M78 r78))
set_option maxHeartbeats 4000000 in
set_option maxRecDepth 100000 in
theorem tX4_connects_74 {l : Launch} {E : xE} {Q : xM → Prop} {k5 : xM → Int32 → Prop} (hk5 : ∀ (M : xM) (a1 : Int32), k5 M a1 → Gx l E mX4_connects (xRv Q) 5 M [some (.ref 50), some (.int a1), none, none] []) (M : xM) (s0 : Int32) (s1 : Int32) (s2 : Int32) (h : wX4_connects_74  Q k5 M s0 s1 s2) : Gx l E mX4_connects (xRv Q) 74 M [some (.ref 50), none, none, none] [.int s0, .int s1, .int s2, .ref 50] := by
  unfold wX4_connects_74 at h
  refine Gx_callV (As := [.int s2, .int s1, .int s0]) (by decide +kernel) ml_4_136 okX4_asks mvX4_asks rfl (by decide) (Nat.le_of_ble_eq_true rfl) rfl rfl rfl (tX4_asks h) (fun rr M74 qq => ?_)
  obtain ⟨rfl, h⟩ := qq
  show Gx l E mX4_connects _ 77 M74 [some (.ref 50), none, none, none] []
  refine Gx_run (es := eX4_connects_77) (P := []) (M' := M74) (L' := [some (.ref 50), none, none, none]) (st' := [.ref 50]) (pc' := 78) kX4_connects_77 rfl trivial rfl ?_
  refine Gx_callV (As := []) (by decide +kernel) ml_4_172 okX4_lone mvX4_lone rfl (by decide) (Nat.le_of_ble_eq_true rfl) rfl rfl rfl (tX4_lone h) (fun rr M78 qq => ?_)
  obtain ⟨r78, rfl, h⟩ := qq
  show Gx l E mX4_connects _ 81 M78 [some (.ref 50), none, none, none] [.int r78]
  refine Gx_run (es := eX4_connects_81) (P := []) (M' := M78) (L' := [some (.ref 50), some (.int r78), none, none]) (st' := []) (pc' := 82) kX4_connects_81 rfl trivial rfl ?_
  refine Gx_goto (off := -77) (tgt := 5) (by decide +kernel) (by decide) ?_
  refine Gx_mask [true, true, false, false] (L' := [some (.ref 50), some (.int r78), none, none]) rfl ?_
  exact hk5 M78 r78 h
def wX4_connects_62 (Q : xM → Prop) (k5 : xM → Int32 → Prop) (M : xM) (a1 : Int32) (a3 : Int32) (s0 : Int32) : Prop :=
    (((¬ a3 = (6 : Int32)) → (wX4_connects_74  Q k5 M a3 a1 s0)) ∧ ((a3 = (6 : Int32)) → (wX4_connects_74  Q k5 M (0 : Int32) a1 s0)))
set_option maxHeartbeats 4000000 in
set_option maxRecDepth 100000 in
theorem tX4_connects_62 {l : Launch} {E : xE} {Q : xM → Prop} {k5 : xM → Int32 → Prop} (hk5 : ∀ (M : xM) (a1 : Int32), k5 M a1 → Gx l E mX4_connects (xRv Q) 5 M [some (.ref 50), some (.int a1), none, none] []) (M : xM) (a1 : Int32) (a3 : Int32) (s0 : Int32) (h : wX4_connects_62  Q k5 M a1 a3 s0) : Gx l E mX4_connects (xRv Q) 62 M [some (.ref 50), some (.int a1), none, some (.int a3)] [.int s0, .ref 50] := by
  unfold wX4_connects_62 at h
  refine Gx_run (es := eX4_connects_62) (P := []) (M' := M) (L' := [some (.ref 50), some (.int a1), none, some (.int a3)]) (st' := [.int (6 : Int32), .int a3, .int a1, .int s0, .ref 50]) (pc' := 66) kX4_connects_62 rfl trivial rfl ?_
  refine Gx_icmp_ne (off := 7) (tgt := 73) (by decide +kernel) (by decide) (fun z => ?_) (fun z => ?_)
  · have h := h.1 z
    refine Gx_run (es := eX4_connects_73) (P := []) (M' := M) (L' := [some (.ref 50), some (.int a1), none, some (.int a3)]) (st' := [.int a3, .int a1, .int s0, .ref 50]) (pc' := 74) kX4_connects_73 rfl trivial rfl ?_
    refine Gx_mask [true, false, false, false] (L' := [some (.ref 50), none, none, none]) rfl ?_
    exact tX4_connects_74  hk5 M a3 a1 s0 h
  · have h := h.2 z
    refine Gx_run (es := eX4_connects_69) (P := []) (M' := M) (L' := [some (.ref 50), some (.int a1), none, some (.int a3)]) (st' := [.int (0 : Int32), .int a1, .int s0, .ref 50]) (pc' := 70) kX4_connects_69 rfl trivial rfl ?_
    refine Gx_goto (off := 4) (tgt := 74) (by decide +kernel) (by decide) ?_
    refine Gx_mask [true, false, false, false] (L' := [some (.ref 50), none, none, none]) rfl ?_
    exact tX4_connects_74  hk5 M (0 : Int32) a1 s0 h
def wX4_connects_42 (Q : xM → Prop) (k5 : xM → Int32 → Prop) (M : xM) (a1 : Int32) : Prop :=
    wX4_attaches M a1 (fun r44 M44 => (((¬ r44 = (6 : Int32)) → (wX4_connects_62  Q k5 M44 a1 r44 (10 : Int32))) ∧ ((r44 = (6 : Int32)) → (wX4_connects_62  Q k5 M44 a1 r44 (11 : Int32)))))
set_option maxHeartbeats 4000000 in
set_option maxRecDepth 100000 in
theorem tX4_connects_42 {l : Launch} {E : xE} {Q : xM → Prop} {k5 : xM → Int32 → Prop} (hk5 : ∀ (M : xM) (a1 : Int32), k5 M a1 → Gx l E mX4_connects (xRv Q) 5 M [some (.ref 50), some (.int a1), none, none] []) (M : xM) (a1 : Int32) (h : wX4_connects_42  Q k5 M a1) : Gx l E mX4_connects (xRv Q) 42 M [some (.ref 50), some (.int a1), none, none] [] := by
  unfold wX4_connects_42 at h
  refine Gx_run (es := eX4_connects_42) (P := []) (M' := M) (L' := [some (.ref 50), some (.int a1), none, none]) (st' := [.int a1, .ref 50]) (pc' := 44) kX4_connects_42 rfl trivial rfl ?_
  refine Gx_callV (As := [.int a1]) (by decide +kernel) ml_4_178 okX4_attaches mvX4_attaches rfl (by decide) (Nat.le_of_ble_eq_true rfl) rfl rfl rfl (tX4_attaches h) (fun rr M44 qq => ?_)
  obtain ⟨r44, rfl, h⟩ := qq
  show Gx l E mX4_connects _ 47 M44 [some (.ref 50), some (.int a1), none, none] [.int r44]
  refine Gx_run (es := eX4_connects_47) (P := []) (M' := M44) (L' := [some (.ref 50), some (.int a1), none, some (.int r44)]) (st' := [.int (6 : Int32), .int r44, .ref 50]) (pc' := 52) kX4_connects_47 rfl trivial rfl ?_
  refine Gx_icmp_ne (off := 8) (tgt := 60) (by decide +kernel) (by decide) (fun z => ?_) (fun z => ?_)
  · have h := h.1 z
    refine Gx_run (es := eX4_connects_60) (P := []) (M' := M44) (L' := [some (.ref 50), some (.int a1), none, some (.int r44)]) (st' := [.int (10 : Int32), .ref 50]) (pc' := 62) kX4_connects_60 rfl trivial rfl ?_
    refine Gx_mask [true, true, false, true] (L' := [some (.ref 50), some (.int a1), none, some (.int r44)]) rfl ?_
    exact tX4_connects_62  hk5 M44 a1 r44 (10 : Int32) h
  · have h := h.2 z
    refine Gx_run (es := eX4_connects_55) (P := []) (M' := M44) (L' := [some (.ref 50), some (.int a1), none, some (.int r44)]) (st' := [.int (11 : Int32), .ref 50]) (pc' := 57) kX4_connects_55 rfl trivial rfl ?_
    refine Gx_goto (off := 5) (tgt := 62) (by decide +kernel) (by decide) ?_
    refine Gx_mask [true, true, false, true] (L' := [some (.ref 50), some (.int a1), none, some (.int r44)]) rfl ?_
    exact tX4_connects_62  hk5 M44 a1 r44 (11 : Int32) h
def lX4_connects_5 (Q : xM → Prop) : Nat → xM → Int32 → Prop
  | 0 => fun _ _ => False
  | n + 1 => let k5 := lX4_connects_5  Q n; fun M a1 =>
    (((a1 = (-1 : Int32)) → ((∃ n : Nat, lX4_connects_87  Q n M (0 : Int32)))) ∧ ((¬ a1 = (-1 : Int32)) → (wX4_entryTo M a1 (fun r12 M12 => (((r12 = (-1 : Int32)) → (wX4_connects_42  Q k5 M12 a1)) ∧ ((¬ r12 = (-1 : Int32)) → (wX4_asks M12 (9 : Int32) a1 (r12 / (6 : Int32)) (fun M29 => (vp_in ((60 : Int32) + r12) 147) ∧ wX4_connects_42  Q k5 (xup M29 51 ((60 : Int32) + r12).toNatClampNeg (-1 : Int32)) a1))))))))
set_option maxHeartbeats 4000000 in
set_option maxRecDepth 100000 in
theorem tX4_connects_5 {l : Launch} {E : xE} {Q : xM → Prop} (n : Nat) : ∀ (M : xM) (a1 : Int32), lX4_connects_5  Q n M a1 → Gx l E mX4_connects (xRv Q) 5 M [some (.ref 50), some (.int a1), none, none] [] := by
  induction n with
  | zero => intro M a1 h; exact h.elim
  | succ n hk5 =>
      intro M a1 h
      unfold lX4_connects_5 at h
      dsimp only at h
      refine Gx_run (es := eX4_connects_5) (P := []) (M' := M) (L' := [some (.ref 50), some (.int a1), none, none]) (st' := [.int (-1 : Int32), .int a1]) (pc' := 7) kX4_connects_5 rfl trivial rfl ?_
      refine Gx_icmp_eq (off := 78) (tgt := 85) (by decide +kernel) (by decide) (fun z => ?_) (fun z => ?_)
      · have h := h.1 z
        refine Gx_run (es := eX4_connects_85) (P := []) (M' := M) (L' := [some (.ref 50), some (.int (0 : Int32)), none, none]) (st' := []) (pc' := 87) kX4_connects_85 rfl trivial rfl ?_
        refine Gx_mask [true, true, false, false] (L' := [some (.ref 50), some (.int (0 : Int32)), none, none]) rfl ?_
        obtain ⟨n, h⟩ := h
        exact tX4_connects_87  n M (0 : Int32) h
      · have h := h.2 z
        refine Gx_run (es := eX4_connects_10) (P := []) (M' := M) (L' := [some (.ref 50), some (.int a1), none, none]) (st' := [.int a1, .ref 50]) (pc' := 12) kX4_connects_10 rfl trivial rfl ?_
        refine Gx_callV (As := [.int a1]) (by decide +kernel) ml_4_175 okX4_entryTo mvX4_entryTo rfl (by decide) (Nat.le_of_ble_eq_true rfl) rfl rfl rfl (tX4_entryTo h) (fun rr M12 qq => ?_)
        obtain ⟨r12, rfl, h⟩ := qq
        show Gx l E mX4_connects _ 15 M12 [some (.ref 50), some (.int a1), none, none] [.int r12]
        refine Gx_run (es := eX4_connects_15) (P := []) (M' := M12) (L' := [some (.ref 50), some (.int a1), some (.int r12), none]) (st' := [.int (-1 : Int32), .int r12]) (pc' := 18) kX4_connects_15 rfl trivial rfl ?_
        refine Gx_icmp_eq (off := 24) (tgt := 42) (by decide +kernel) (by decide) (fun z => ?_) (fun z => ?_)
        · have h := h.1 z
          refine Gx_mask [true, true, false, false] (L' := [some (.ref 50), some (.int a1), none, none]) rfl ?_
          exact tX4_connects_42  hk5 M12 a1 h
        · have h := h.2 z
          refine Gx_run (es := eX4_connects_21) (P := [¬ (6 : Int32) = 0]) (M' := M12) (L' := [some (.ref 50), some (.int a1), some (.int r12), none]) (st' := [.int (r12 / (6 : Int32)), .int a1, .int (9 : Int32), .ref 50]) (pc' := 29) kX4_connects_21 rfl ⟨(by decide), trivial⟩ rfl ?_
          refine Gx_callV (As := [.int (9 : Int32), .int a1, .int (r12 / (6 : Int32))]) (by decide +kernel) ml_4_136 okX4_asks mvX4_asks rfl (by decide) (Nat.le_of_ble_eq_true rfl) rfl rfl rfl (tX4_asks h) (fun rr M29 qq => ?_)
          obtain ⟨rfl, h⟩ := qq
          show Gx l E mX4_connects _ 32 M29 [some (.ref 50), some (.int a1), some (.int r12), none] []
          obtain ⟨g32_0, h⟩ := h
          refine Gx_run (es := eX4_connects_32) (P := [xkd 50 = 4, xkd 51 = 5, vp_in ((60 : Int32) + r12) (xln 51)]) (M' := (xup M29 51 ((60 : Int32) + r12).toNatClampNeg (-1 : Int32))) (L' := [some (.ref 50), some (.int a1), some (.int r12), none]) (st' := []) (pc' := 42) kX4_connects_32 rfl ⟨rfl, rfl, g32_0, trivial⟩ rfl ?_
          refine Gx_mask [true, true, false, false] (L' := [some (.ref 50), some (.int a1), none, none]) rfl ?_
          exact tX4_connects_42  hk5 (xup M29 51 ((60 : Int32) + r12).toNatClampNeg (-1 : Int32)) a1 h
def wX4_connects (M : xM) (Q : xM → Prop) : Prop :=
    wX4_lone M (fun r1 M1 => (∃ n : Nat, lX4_connects_5  Q n M1 r1))
set_option maxHeartbeats 4000000 in
set_option maxRecDepth 100000 in
theorem tX4_connects {l : Launch} {E : xE} {M : xM} {Q : xM → Prop} (h : wX4_connects M  Q) : Ct l E mX4_connects [.ref 50] M (xRv Q) := by
  refine Ct_of (by decide +kernel) rfl (Nat.le_of_ble_eq_true rfl) ?_
  unfold wX4_connects at h
  show Gx l E mX4_connects (xRv Q) 0 M [some (.ref 50), none, none, none] []
  refine Gx_run (es := eX4_connects_0) (P := []) (M' := M) (L' := [some (.ref 50), none, none, none]) (st' := [.ref 50]) (pc' := 1) kX4_connects_0 rfl trivial rfl ?_
  refine Gx_callV (As := []) (by decide +kernel) ml_4_172 okX4_lone mvX4_lone rfl (by decide) (Nat.le_of_ble_eq_true rfl) rfl rfl rfl (tX4_lone h) (fun rr M1 qq => ?_)
  obtain ⟨r1, rfl, h⟩ := qq
  show Gx l E mX4_connects _ 4 M1 [some (.ref 50), none, none, none] [.int r1]
  refine Gx_run (es := eX4_connects_4) (P := []) (M' := M1) (L' := [some (.ref 50), some (.int r1), none, none]) (st' := []) (pc' := 5) kX4_connects_4 rfl trivial rfl ?_
  refine Gx_mask [true, true, false, false] (L' := [some (.ref 50), some (.int r1), none, none]) rfl ?_
  obtain ⟨n, h⟩ := h
  exact tX4_connects_5  n M1 r1 h
def eX4_count_0 : List xI := [(.iload_n 1, 1, 0, 0, 0)]
theorem kX4_count_0 : xcode (xmb mX4_count) (xmo mX4_count) 0 eX4_count_0 = true := by decide +kernel
def eX4_count_48 : List xI := [(.aload_n 0, 1, 0, 0, 0), (.iconst 0, 1, 0, 0, (0))]
theorem kX4_count_48 : xcode (xmb mX4_count) (xmo mX4_count) 48 eX4_count_48 = true := by decide +kernel
def eX4_count_54 : List xI := [(.aload_n 0, 1, 0, 0, 0), (.iconst 1, 1, 0, 0, (1))]
theorem kX4_count_54 : xcode (xmb mX4_count) (xmo mX4_count) 54 eX4_count_54 = true := by decide +kernel
def eX4_count_60 : List xI := [(.aload_n 0, 1, 0, 0, 0), (.sipush 1023, 3, 0, 0, (1023))]
theorem kX4_count_60 : xcode (xmb mX4_count) (xmo mX4_count) 60 eX4_count_60 = true := by decide +kernel
def eX4_count_68 : List xI := [(.aload_n 0, 1, 0, 0, 0), (.getfield 7, 3, 4, 1, 0), (.sipush 144, 3, 0, 0, (144)), (.iaload, 1, 0, 0, 0)]
theorem kX4_count_68 : xcode (xmb mX4_count) (xmo mX4_count) 68 eX4_count_68 = true := by decide +kernel
def eX4_count_77 : List xI := [(.aload_n 0, 1, 0, 0, 0), (.getfield 7, 3, 4, 1, 0), (.sipush 145, 3, 0, 0, (145)), (.iaload, 1, 0, 0, 0)]
theorem kX4_count_77 : xcode (xmb mX4_count) (xmo mX4_count) 77 eX4_count_77 = true := by decide +kernel
def eX4_count_86 : List xI := [(.aload_n 0, 1, 0, 0, 0), (.getfield 7, 3, 4, 1, 0), (.sipush 146, 3, 0, 0, (146)), (.iaload, 1, 0, 0, 0)]
theorem kX4_count_86 : xcode (xmb mX4_count) (xmo mX4_count) 86 eX4_count_86 = true := by decide +kernel
def eX4_count_95 : List xI := [(.aload_n 0, 1, 0, 0, 0), (.getfield 237, 3, 4, 16, 0)]
theorem kX4_count_95 : xcode (xmb mX4_count) (xmo mX4_count) 95 eX4_count_95 = true := by decide +kernel
def eX4_count_100 : List xI := [(.aload_n 0, 1, 0, 0, 0), (.getfield 58, 3, 4, 7, 0)]
theorem kX4_count_100 : xcode (xmb mX4_count) (xmo mX4_count) 100 eX4_count_100 = true := by decide +kernel
def eX4_count_105 : List xI := [(.iload_n 1, 1, 0, 0, 0), (.bipush 11, 2, 0, 0, (11)), (.bipush 16, 2, 0, 0, (16))]
theorem kX4_count_105 : xcode (xmb mX4_count) (xmo mX4_count) 105 eX4_count_105 = true := by decide +kernel
def eX4_count_125 : List xI := [(.bipush (-9), 2, 0, 0, (-9))]
theorem kX4_count_125 : xcode (xmb mX4_count) (xmo mX4_count) 125 eX4_count_125 = true := by decide +kernel
def eX4_count_116 : List xI := [(.aload_n 0, 1, 0, 0, 0), (.getfield 19, 3, 4, 5, 0), (.iload_n 1, 1, 0, 0, 0), (.iaload, 1, 0, 0, 0)]
theorem kX4_count_116 : xcode (xmb mX4_count) (xmo mX4_count) 116 eX4_count_116 = true := by decide +kernel
def wX4_count_127 (p1 : Int32) (Q : Int32 → xM → Prop) (M : xM) (s0 : Int32) : Prop :=
    Q s0 M
set_option maxHeartbeats 4000000 in
set_option maxRecDepth 100000 in
theorem tX4_count_127 {l : Launch} {E : xE} {p1 : Int32} {Q : Int32 → xM → Prop} (M : xM) (s0 : Int32) (h : wX4_count_127 p1 Q M s0) : Gx l E mX4_count (xRi Q) 127 M [none, none] [.int s0] := by
  unfold wX4_count_127 at h
  exact Gx_iret (by decide +kernel) rfl rfl ⟨_, rfl, h⟩
def wX4_count (M : xM) (p1 : Int32) (Q : Int32 → xM → Prop) : Prop :=
    (((p1 = (0 : Int32)) → (wX4_kinds M (0 : Int32) (fun r50 M50 => Q r50 M50))) ∧ ((¬ p1 = (0 : Int32)) → (((p1 = (1 : Int32)) → (wX4_kinds M (1 : Int32) (fun r56 M56 => Q r56 M56))) ∧ ((¬ p1 = (1 : Int32)) → (((p1 = (2 : Int32)) → (wX4_blocksOf M (1023 : Int32) (fun r64 M64 => Q r64 M64))) ∧ ((¬ p1 = (2 : Int32)) → (((p1 = (3 : Int32)) → ((vp_in (144 : Int32) 147) ∧ Q (M 51 (144 : Int32).toNatClampNeg) M)) ∧ ((¬ p1 = (3 : Int32)) → (((p1 = (4 : Int32)) → ((vp_in (145 : Int32) 147) ∧ Q (M 51 (145 : Int32).toNatClampNeg) M)) ∧ ((¬ p1 = (4 : Int32)) → (((p1 = (5 : Int32)) → ((vp_in (146 : Int32) 147) ∧ Q (M 51 (146 : Int32).toNatClampNeg) M)) ∧ ((¬ p1 = (5 : Int32)) → (((p1 = (6 : Int32)) → (Q (M 50 16) M)) ∧ ((¬ p1 = (6 : Int32)) → (((p1 = (7 : Int32)) → (Q (M 50 7) M)) ∧ ((¬ p1 = (7 : Int32)) → (wX4_in M p1 (11 : Int32) (16 : Int32) (fun r110 M110 => (((r110 = 0) → (wX4_count_127 p1 Q M110 (-9 : Int32))) ∧ ((¬ r110 = 0) → ((vp_in p1 17) ∧ wX4_count_127 p1 Q M110 (M110 54 p1.toNatClampNeg))))))))))))))))))))))
set_option maxHeartbeats 4000000 in
set_option maxRecDepth 100000 in
theorem tX4_count {l : Launch} {E : xE} {M : xM} {p1 : Int32} {Q : Int32 → xM → Prop} (h : wX4_count M p1 Q) : Ct l E mX4_count [.ref 50, .int p1] M (xRi Q) := by
  refine Ct_of (by decide +kernel) rfl (Nat.le_of_ble_eq_true rfl) ?_
  unfold wX4_count at h
  show Gx l E mX4_count (xRi Q) 0 M [some (.ref 50), some (.int p1)] []
  refine Gx_run (es := eX4_count_0) (P := []) (M' := M) (L' := [some (.ref 50), some (.int p1)]) (st' := [.int p1]) (pc' := 1) kX4_count_0 rfl trivial rfl ?_
  by_cases z0 : p1 = (0 : Int32)
  · have h := h.1 z0
    refine Gx_tabAt (dflt := 104) (lo := 0) (hi := 7) (offs := #[47, 53, 59, 67, 76, 85, 94, 99]) (len := 47) z0 (by decide +kernel) (by decide) (by decide) (off := 47) (tgt := 48) rfl (by decide) ?_
    refine Gx_run (es := eX4_count_48) (P := []) (M' := M) (L' := [some (.ref 50), some (.int p1)]) (st' := [.int (0 : Int32), .ref 50]) (pc' := 50) kX4_count_48 rfl trivial rfl ?_
    refine Gx_callV (As := [.int (0 : Int32)]) (by decide +kernel) ml_4_259 okX4_kinds mvX4_kinds rfl (by decide) (Nat.le_of_ble_eq_true rfl) rfl rfl rfl (tX4_kinds h) (fun rr M50 qq => ?_)
    obtain ⟨r50, rfl, h⟩ := qq
    show Gx l E mX4_count _ 53 M50 [some (.ref 50), some (.int p1)] [.int r50]
    exact Gx_iret (by decide +kernel) rfl rfl ⟨_, rfl, h⟩
  replace h := h.2 z0
  by_cases z1 : p1 = (1 : Int32)
  · have h := h.1 z1
    refine Gx_tabAt (dflt := 104) (lo := 0) (hi := 7) (offs := #[47, 53, 59, 67, 76, 85, 94, 99]) (len := 47) z1 (by decide +kernel) (by decide) (by decide) (off := 53) (tgt := 54) rfl (by decide) ?_
    refine Gx_run (es := eX4_count_54) (P := []) (M' := M) (L' := [some (.ref 50), some (.int p1)]) (st' := [.int (1 : Int32), .ref 50]) (pc' := 56) kX4_count_54 rfl trivial rfl ?_
    refine Gx_callV (As := [.int (1 : Int32)]) (by decide +kernel) ml_4_259 okX4_kinds mvX4_kinds rfl (by decide) (Nat.le_of_ble_eq_true rfl) rfl rfl rfl (tX4_kinds h) (fun rr M56 qq => ?_)
    obtain ⟨r56, rfl, h⟩ := qq
    show Gx l E mX4_count _ 59 M56 [some (.ref 50), some (.int p1)] [.int r56]
    exact Gx_iret (by decide +kernel) rfl rfl ⟨_, rfl, h⟩
  replace h := h.2 z1
  by_cases z2 : p1 = (2 : Int32)
  · have h := h.1 z2
    refine Gx_tabAt (dflt := 104) (lo := 0) (hi := 7) (offs := #[47, 53, 59, 67, 76, 85, 94, 99]) (len := 47) z2 (by decide +kernel) (by decide) (by decide) (off := 59) (tgt := 60) rfl (by decide) ?_
    refine Gx_run (es := eX4_count_60) (P := []) (M' := M) (L' := [some (.ref 50), some (.int p1)]) (st' := [.int (1023 : Int32), .ref 50]) (pc' := 64) kX4_count_60 rfl trivial rfl ?_
    refine Gx_callV (As := [.int (1023 : Int32)]) (by decide +kernel) ml_4_208 okX4_blocksOf mvX4_blocksOf rfl (by decide) (Nat.le_of_ble_eq_true rfl) rfl rfl rfl (tX4_blocksOf h) (fun rr M64 qq => ?_)
    obtain ⟨r64, rfl, h⟩ := qq
    show Gx l E mX4_count _ 67 M64 [some (.ref 50), some (.int p1)] [.int r64]
    exact Gx_iret (by decide +kernel) rfl rfl ⟨_, rfl, h⟩
  replace h := h.2 z2
  by_cases z3 : p1 = (3 : Int32)
  · have h := h.1 z3
    refine Gx_tabAt (dflt := 104) (lo := 0) (hi := 7) (offs := #[47, 53, 59, 67, 76, 85, 94, 99]) (len := 47) z3 (by decide +kernel) (by decide) (by decide) (off := 67) (tgt := 68) rfl (by decide) ?_
    obtain ⟨g68_0, h⟩ := h
    refine Gx_run (es := eX4_count_68) (P := [xkd 50 = 4, xkd 51 = 5, vp_in (144 : Int32) (xln 51)]) (M' := M) (L' := [some (.ref 50), some (.int p1)]) (st' := [.int (M 51 (144 : Int32).toNatClampNeg)]) (pc' := 76) kX4_count_68 rfl ⟨rfl, rfl, g68_0, trivial⟩ rfl ?_
    exact Gx_iret (by decide +kernel) rfl rfl ⟨_, rfl, h⟩
  replace h := h.2 z3
  by_cases z4 : p1 = (4 : Int32)
  · have h := h.1 z4
    refine Gx_tabAt (dflt := 104) (lo := 0) (hi := 7) (offs := #[47, 53, 59, 67, 76, 85, 94, 99]) (len := 47) z4 (by decide +kernel) (by decide) (by decide) (off := 76) (tgt := 77) rfl (by decide) ?_
    obtain ⟨g77_0, h⟩ := h
    refine Gx_run (es := eX4_count_77) (P := [xkd 50 = 4, xkd 51 = 5, vp_in (145 : Int32) (xln 51)]) (M' := M) (L' := [some (.ref 50), some (.int p1)]) (st' := [.int (M 51 (145 : Int32).toNatClampNeg)]) (pc' := 85) kX4_count_77 rfl ⟨rfl, rfl, g77_0, trivial⟩ rfl ?_
    exact Gx_iret (by decide +kernel) rfl rfl ⟨_, rfl, h⟩
  replace h := h.2 z4
  by_cases z5 : p1 = (5 : Int32)
  · have h := h.1 z5
    refine Gx_tabAt (dflt := 104) (lo := 0) (hi := 7) (offs := #[47, 53, 59, 67, 76, 85, 94, 99]) (len := 47) z5 (by decide +kernel) (by decide) (by decide) (off := 85) (tgt := 86) rfl (by decide) ?_
    obtain ⟨g86_0, h⟩ := h
    refine Gx_run (es := eX4_count_86) (P := [xkd 50 = 4, xkd 51 = 5, vp_in (146 : Int32) (xln 51)]) (M' := M) (L' := [some (.ref 50), some (.int p1)]) (st' := [.int (M 51 (146 : Int32).toNatClampNeg)]) (pc' := 94) kX4_count_86 rfl ⟨rfl, rfl, g86_0, trivial⟩ rfl ?_
    exact Gx_iret (by decide +kernel) rfl rfl ⟨_, rfl, h⟩
  replace h := h.2 z5
  by_cases z6 : p1 = (6 : Int32)
  · have h := h.1 z6
    refine Gx_tabAt (dflt := 104) (lo := 0) (hi := 7) (offs := #[47, 53, 59, 67, 76, 85, 94, 99]) (len := 47) z6 (by decide +kernel) (by decide) (by decide) (off := 94) (tgt := 95) rfl (by decide) ?_
    refine Gx_run (es := eX4_count_95) (P := [xkd 50 = 4]) (M' := M) (L' := [some (.ref 50), some (.int p1)]) (st' := [.int (M 50 16)]) (pc' := 99) kX4_count_95 rfl ⟨rfl, trivial⟩ rfl ?_
    exact Gx_iret (by decide +kernel) rfl rfl ⟨_, rfl, h⟩
  replace h := h.2 z6
  by_cases z7 : p1 = (7 : Int32)
  · have h := h.1 z7
    refine Gx_tabAt (dflt := 104) (lo := 0) (hi := 7) (offs := #[47, 53, 59, 67, 76, 85, 94, 99]) (len := 47) z7 (by decide +kernel) (by decide) (by decide) (off := 99) (tgt := 100) rfl (by decide) ?_
    refine Gx_run (es := eX4_count_100) (P := [xkd 50 = 4]) (M' := M) (L' := [some (.ref 50), some (.int p1)]) (st' := [.int (M 50 7)]) (pc' := 104) kX4_count_100 rfl ⟨rfl, trivial⟩ rfl ?_
    exact Gx_iret (by decide +kernel) rfl rfl ⟨_, rfl, h⟩
  replace h := h.2 z7
  suffices hk : Gx l E mX4_count _ 105 M [some (.ref 50), some (.int p1)] [] by
    refine Gx_tableOut (dflt := 104) (lo := 0) (hi := 7) (offs := #[47, 53, 59, 67, 76, 85, 94, 99]) (len := 47) (tgt := 105) (by decide +kernel) ?_ (by decide) hk
    have n0 := lv_neT (a := 0) z0 (by decide)
    have n1 := lv_neT (a := 1) z1 (by decide)
    have n2 := lv_neT (a := 2) z2 (by decide)
    have n3 := lv_neT (a := 3) z3 (by decide)
    have n4 := lv_neT (a := 4) z4 (by decide)
    have n5 := lv_neT (a := 5) z5 (by decide)
    have n6 := lv_neT (a := 6) z6 (by decide)
    have n7 := lv_neT (a := 7) z7 (by decide)
    omega
  refine Gx_run (es := eX4_count_105) (P := []) (M' := M) (L' := [some (.ref 50), some (.int p1)]) (st' := [.int (16 : Int32), .int (11 : Int32), .int p1]) (pc' := 110) kX4_count_105 rfl trivial rfl ?_
  refine Gx_callS (As := [.int p1, .int (11 : Int32), .int (16 : Int32)]) (by decide +kernel) ml_4_43 okX4_in mvX4_in rfl (by decide) (Nat.le_of_ble_eq_true rfl) (tX4_in h) (fun rr M110 qq => ?_)
  obtain ⟨r110, rfl, h⟩ := qq
  show Gx l E mX4_count _ 113 M110 [some (.ref 50), some (.int p1)] [.int r110]
  refine Gx_if_eq (off := 12) (tgt := 125) (by decide +kernel) (by decide) (fun z => ?_) (fun z => ?_)
  · have h := h.1 z
    refine Gx_run (es := eX4_count_125) (P := []) (M' := M110) (L' := [some (.ref 50), some (.int p1)]) (st' := [.int (-9 : Int32)]) (pc' := 127) kX4_count_125 rfl trivial rfl ?_
    refine Gx_mask [false, false] (L' := [none, none]) rfl ?_
    exact tX4_count_127  M110 (-9 : Int32) h
  · have h := h.2 z
    obtain ⟨g116_0, h⟩ := h
    refine Gx_run (es := eX4_count_116) (P := [xkd 50 = 4, xkd 54 = 5, vp_in p1 (xln 54)]) (M' := M110) (L' := [some (.ref 50), some (.int p1)]) (st' := [.int (M110 54 p1.toNatClampNeg)]) (pc' := 122) kX4_count_116 rfl ⟨rfl, rfl, g116_0, trivial⟩ rfl ?_
    refine Gx_goto (off := 5) (tgt := 127) (by decide +kernel) (by decide) ?_
    refine Gx_mask [false, false] (L' := [none, none]) rfl ?_
    exact tX4_count_127  M110 (M110 54 p1.toNatClampNeg) h
def eX4_twoDigits_0 : List xI := [(.aload_n 0, 1, 0, 0, 0)]
theorem kX4_twoDigits_0 : xcode (xmb mX4_twoDigits) (xmo mX4_twoDigits) 0 eX4_twoDigits_0 = true := by decide +kernel
def eX4_twoDigits_4 : List xI := [(.istore_n 1, 1, 0, 0, 0), (.bipush 10, 2, 0, 0, (10)), (.iload_n 1, 1, 0, 0, 0), (.imul, 1, 0, 0, 0), (.aload_n 0, 1, 0, 0, 0)]
theorem kX4_twoDigits_4 : xcode (xmb mX4_twoDigits) (xmo mX4_twoDigits) 4 eX4_twoDigits_4 = true := by decide +kernel
def eX4_twoDigits_13 : List xI := [(.iadd, 1, 0, 0, 0)]
theorem kX4_twoDigits_13 : xcode (xmb mX4_twoDigits) (xmo mX4_twoDigits) 13 eX4_twoDigits_13 = true := by decide +kernel
def wX4_twoDigits (M : xM) (Q : Int32 → xM → Prop) : Prop :=
    wX4_digit M (fun r1 M1 => wX4_digit M1 (fun r10 M10 => Q (((10 : Int32) * r1) + r10) M10))
set_option maxHeartbeats 4000000 in
set_option maxRecDepth 100000 in
theorem tX4_twoDigits {l : Launch} {E : xE} {M : xM} {Q : Int32 → xM → Prop} (h : wX4_twoDigits M  Q) : Ct l E mX4_twoDigits [.ref 50] M (xRi Q) := by
  refine Ct_of (by decide +kernel) rfl (Nat.le_of_ble_eq_true rfl) ?_
  unfold wX4_twoDigits at h
  show Gx l E mX4_twoDigits (xRi Q) 0 M [some (.ref 50), none] []
  refine Gx_run (es := eX4_twoDigits_0) (P := []) (M' := M) (L' := [some (.ref 50), none]) (st' := [.ref 50]) (pc' := 1) kX4_twoDigits_0 rfl trivial rfl ?_
  refine Gx_callV (As := []) (by decide +kernel) ml_4_76 okX4_digit mvX4_digit rfl (by decide) (Nat.le_of_ble_eq_true rfl) rfl rfl rfl (tX4_digit h) (fun rr M1 qq => ?_)
  obtain ⟨r1, rfl, h⟩ := qq
  show Gx l E mX4_twoDigits _ 4 M1 [some (.ref 50), none] [.int r1]
  refine Gx_run (es := eX4_twoDigits_4) (P := []) (M' := M1) (L' := [some (.ref 50), some (.int r1)]) (st' := [.ref 50, .int ((10 : Int32) * r1)]) (pc' := 10) kX4_twoDigits_4 rfl trivial rfl ?_
  refine Gx_callV (As := []) (by decide +kernel) ml_4_76 okX4_digit mvX4_digit rfl (by decide) (Nat.le_of_ble_eq_true rfl) rfl rfl rfl (tX4_digit h) (fun rr M10 qq => ?_)
  obtain ⟨r10, rfl, h⟩ := qq
  show Gx l E mX4_twoDigits _ 13 M10 [some (.ref 50), some (.int r1)] [.int r10, .int ((10 : Int32) * r1)]
  refine Gx_run (es := eX4_twoDigits_13) (P := []) (M' := M10) (L' := [some (.ref 50), some (.int r1)]) (st' := [.int (((10 : Int32) * r1) + r10)]) (pc' := 14) kX4_twoDigits_13 rfl trivial rfl ?_
  exact Gx_iret (by decide +kernel) rfl rfl ⟨_, rfl, h⟩
def eX0_run_0 : List xI := [(.aload_n 0, 1, 0, 0, 0), (.getfield 12, 3, 0, 0, 0), (.aload_n 1, 1, 0, 0, 0)]
theorem kX0_run_0 : xcode (xmb mX0_run) (xmo mX0_run) 0 eX0_run_0 = true := by decide +kernel
def eX0_run_8 : List xI := [(.aload_n 0, 1, 0, 0, 0), (.iload_n 2, 1, 0, 0, 0), (.putfield 35, 3, 0, 6, 0), (.aload_n 0, 1, 0, 0, 0), (.iconst 0, 1, 0, 0, (0)), (.putfield 28, 3, 0, 4, 0), (.aload_n 0, 1, 0, 0, 0)]
theorem kX0_run_8 : xcode (xmb mX0_run) (xmo mX0_run) 8 eX0_run_8 = true := by decide +kernel
def eX0_run_22 : List xI := [(.aload_n 0, 1, 0, 0, 0)]
theorem kX0_run_22 : xcode (xmb mX0_run) (xmo mX0_run) 22 eX0_run_22 = true := by decide +kernel
def eX0_run_26 : List xI := [(.aload_n 0, 1, 0, 0, 0)]
theorem kX0_run_26 : xcode (xmb mX0_run) (xmo mX0_run) 26 eX0_run_26 = true := by decide +kernel
def eX0_run_30 : List xI := [(.aload_n 0, 1, 0, 0, 0)]
theorem kX0_run_30 : xcode (xmb mX0_run) (xmo mX0_run) 30 eX0_run_30 = true := by decide +kernel
def eX0_run_34 : List xI := [(.aload_n 0, 1, 0, 0, 0)]
theorem kX0_run_34 : xcode (xmb mX0_run) (xmo mX0_run) 34 eX0_run_34 = true := by decide +kernel
def eX0_run_38 : List xI := [(.aload_n 0, 1, 0, 0, 0)]
theorem kX0_run_38 : xcode (xmb mX0_run) (xmo mX0_run) 38 eX0_run_38 = true := by decide +kernel
def wX0_run (M : xM) (c : Nat) (p1 : Nat) (p2 : Int32) (Q : xM → Prop) : Prop :=
    wX2_takeFrom M (c + 1) p1 (fun M5 => wX0_mendPointers (xup (xup M5 c 6 p2) c 4 (0 : Int32)) c (fun M19 => wX0_mendEntries M19 c (fun M23 => wX0_mendConnections M23 c (fun M27 => wX0_mendParents M27 c (fun M31 => wX0_mendCounts M31 c (fun M35 => wX0_mendMaps M35 c (fun M39 => Q M39)))))))
set_option maxHeartbeats 4000000 in
set_option maxRecDepth 100000 in
theorem tX0_run {l : Launch} {E : xE} {M : xM} {c : Nat} {p1 : Nat} {p2 : Int32} {Q : xM → Prop} (h_c : xChk c) (h_p1 : xVol p1) (h : wX0_run M c p1 p2 Q) : Ct l E mX0_run [.ref c, .ref p1, .int p2] M (xRv Q) := by
  refine Ct_of (by decide +kernel) rfl (Nat.le_of_ble_eq_true rfl) ?_
  unfold wX0_run at h
  show Gx l E mX0_run (xRv Q) 0 M [some (.ref c), some (.ref p1), some (.int p2)] []
  refine Gx_run (es := eX0_run_0) (P := [xkd c = 0]) (M' := M) (L' := [some (.ref c), some (.ref p1), some (.int p2)]) (st' := [.ref p1, .ref (c + 1)]) (pc' := 5) kX0_run_0 rfl ⟨(xChk_0 h_c), trivial⟩ rfl ?_
  refine Gx_callV (As := [.ref p1]) (by decide +kernel) ml_0_38 okX2_takeFrom mvX2_takeFrom rfl (by decide) (Nat.le_of_ble_eq_true rfl) (xChk_1 h_c) rfl rfl (tX2_takeFrom (xChk_v h_c) h_p1 h) (fun rr M5 qq => ?_)
  obtain ⟨rfl, h⟩ := qq
  show Gx l E mX0_run _ 8 M5 [some (.ref c), some (.ref p1), some (.int p2)] []
  refine Gx_run (es := eX0_run_8) (P := [xkd c = 0, xkd c = 0]) (M' := (xup (xup M5 c 6 p2) c 4 (0 : Int32))) (L' := [some (.ref c), some (.ref p1), some (.int p2)]) (st' := [.ref c]) (pc' := 19) kX0_run_8 rfl ⟨(xChk_0 h_c), (xChk_0 h_c), trivial⟩ rfl ?_
  refine Gx_callV (As := []) (by decide +kernel) ml_0_42 okX0_mendPointers mvX0_mendPointers rfl (by decide) (Nat.le_of_ble_eq_true rfl) (xChk_0 h_c) rfl rfl (tX0_mendPointers h_c h) (fun rr M19 qq => ?_)
  obtain ⟨rfl, h⟩ := qq
  show Gx l E mX0_run _ 22 M19 [some (.ref c), some (.ref p1), some (.int p2)] []
  refine Gx_run (es := eX0_run_22) (P := []) (M' := M19) (L' := [some (.ref c), some (.ref p1), some (.int p2)]) (st' := [.ref c]) (pc' := 23) kX0_run_22 rfl trivial rfl ?_
  refine Gx_callV (As := []) (by decide +kernel) ml_0_45 okX0_mendEntries mvX0_mendEntries rfl (by decide) (Nat.le_of_ble_eq_true rfl) (xChk_0 h_c) rfl rfl (tX0_mendEntries h_c h) (fun rr M23 qq => ?_)
  obtain ⟨rfl, h⟩ := qq
  show Gx l E mX0_run _ 26 M23 [some (.ref c), some (.ref p1), some (.int p2)] []
  refine Gx_run (es := eX0_run_26) (P := []) (M' := M23) (L' := [some (.ref c), some (.ref p1), some (.int p2)]) (st' := [.ref c]) (pc' := 27) kX0_run_26 rfl trivial rfl ?_
  refine Gx_callV (As := []) (by decide +kernel) ml_0_48 okX0_mendConnections mvX0_mendConnections rfl (by decide) (Nat.le_of_ble_eq_true rfl) (xChk_0 h_c) rfl rfl (tX0_mendConnections h_c h) (fun rr M27 qq => ?_)
  obtain ⟨rfl, h⟩ := qq
  show Gx l E mX0_run _ 30 M27 [some (.ref c), some (.ref p1), some (.int p2)] []
  refine Gx_run (es := eX0_run_30) (P := []) (M' := M27) (L' := [some (.ref c), some (.ref p1), some (.int p2)]) (st' := [.ref c]) (pc' := 31) kX0_run_30 rfl trivial rfl ?_
  refine Gx_callV (As := []) (by decide +kernel) ml_0_51 okX0_mendParents mvX0_mendParents rfl (by decide) (Nat.le_of_ble_eq_true rfl) (xChk_0 h_c) rfl rfl (tX0_mendParents h_c h) (fun rr M31 qq => ?_)
  obtain ⟨rfl, h⟩ := qq
  show Gx l E mX0_run _ 34 M31 [some (.ref c), some (.ref p1), some (.int p2)] []
  refine Gx_run (es := eX0_run_34) (P := []) (M' := M31) (L' := [some (.ref c), some (.ref p1), some (.int p2)]) (st' := [.ref c]) (pc' := 35) kX0_run_34 rfl trivial rfl ?_
  refine Gx_callV (As := []) (by decide +kernel) ml_0_54 okX0_mendCounts mvX0_mendCounts rfl (by decide) (Nat.le_of_ble_eq_true rfl) (xChk_0 h_c) rfl rfl (tX0_mendCounts h_c h) (fun rr M35 qq => ?_)
  obtain ⟨rfl, h⟩ := qq
  show Gx l E mX0_run _ 38 M35 [some (.ref c), some (.ref p1), some (.int p2)] []
  refine Gx_run (es := eX0_run_38) (P := []) (M' := M35) (L' := [some (.ref c), some (.ref p1), some (.int p2)]) (st' := [.ref c]) (pc' := 39) kX0_run_38 rfl trivial rfl ?_
  refine Gx_callV (As := []) (by decide +kernel) ml_0_57 okX0_mendMaps mvX0_mendMaps rfl (by decide) (Nat.le_of_ble_eq_true rfl) (xChk_0 h_c) rfl rfl (tX0_mendMaps h_c h) (fun rr M39 qq => ?_)
  obtain ⟨rfl, h⟩ := qq
  show Gx l E mX0_run _ 42 M39 [some (.ref c), some (.ref p1), some (.int p2)] []
  exact Gx_vret (by decide +kernel) rfl ⟨rfl, h⟩
def eX1_fits_0 : List xI := [(.iload_n 0, 1, 0, 0, 0)]
theorem kX1_fits_0 : xcode (xmb mX1_fits) (xmo mX1_fits) 0 eX1_fits_0 = true := by decide +kernel
def eX1_fits_36 : List xI := [(.iload_n 1, 1, 0, 0, 0), (.bipush 48, 2, 0, 0, (48))]
theorem kX1_fits_36 : xcode (xmb mX1_fits) (xmo mX1_fits) 36 eX1_fits_36 = true := by decide +kernel
def eX1_fits_52 : List xI := [(.iconst 0, 1, 0, 0, (0))]
theorem kX1_fits_52 : xcode (xmb mX1_fits) (xmo mX1_fits) 52 eX1_fits_52 = true := by decide +kernel
def eX1_fits_42 : List xI := [(.iload_n 1, 1, 0, 0, 0), (.bipush 57, 2, 0, 0, (57))]
theorem kX1_fits_42 : xcode (xmb mX1_fits) (xmo mX1_fits) 42 eX1_fits_42 = true := by decide +kernel
def eX1_fits_48 : List xI := [(.iconst 1, 1, 0, 0, (1))]
theorem kX1_fits_48 : xcode (xmb mX1_fits) (xmo mX1_fits) 48 eX1_fits_48 = true := by decide +kernel
def eX1_fits_70 : List xI := [(.iload_n 1, 1, 0, 0, 0), (.bipush 97, 2, 0, 0, (97))]
theorem kX1_fits_70 : xcode (xmb mX1_fits) (xmo mX1_fits) 70 eX1_fits_70 = true := by decide +kernel
def eX1_fits_86 : List xI := [(.iconst 0, 1, 0, 0, (0))]
theorem kX1_fits_86 : xcode (xmb mX1_fits) (xmo mX1_fits) 86 eX1_fits_86 = true := by decide +kernel
def eX1_fits_76 : List xI := [(.iload_n 1, 1, 0, 0, 0), (.bipush 122, 2, 0, 0, (122))]
theorem kX1_fits_76 : xcode (xmb mX1_fits) (xmo mX1_fits) 76 eX1_fits_76 = true := by decide +kernel
def eX1_fits_82 : List xI := [(.iconst 1, 1, 0, 0, (1))]
theorem kX1_fits_82 : xcode (xmb mX1_fits) (xmo mX1_fits) 82 eX1_fits_82 = true := by decide +kernel
def eX1_fits_54 : List xI := [(.ldc 26, 2, 1, 7, 0), (.iload_n 1, 1, 0, 0, 0), (.i2c, 1, 0, 0, 0)]
theorem kX1_fits_54 : xcode (xmb mX1_fits) (xmo mX1_fits) 54 eX1_fits_54 = true := by decide +kernel
def eX1_fits_68 : List xI := [(.iconst 0, 1, 0, 0, (0))]
theorem kX1_fits_68 : xcode (xmb mX1_fits) (xmo mX1_fits) 68 eX1_fits_68 = true := by decide +kernel
def eX1_fits_64 : List xI := [(.iconst 1, 1, 0, 0, (1))]
theorem kX1_fits_64 : xcode (xmb mX1_fits) (xmo mX1_fits) 64 eX1_fits_64 = true := by decide +kernel
def eX1_fits_88 : List xI := [(.iload_n 1, 1, 0, 0, 0), (.iload_n 0, 1, 0, 0, 0)]
theorem kX1_fits_88 : xcode (xmb mX1_fits) (xmo mX1_fits) 88 eX1_fits_88 = true := by decide +kernel
def eX1_fits_97 : List xI := [(.iconst 0, 1, 0, 0, (0))]
theorem kX1_fits_97 : xcode (xmb mX1_fits) (xmo mX1_fits) 97 eX1_fits_97 = true := by decide +kernel
def eX1_fits_93 : List xI := [(.iconst 1, 1, 0, 0, (1))]
theorem kX1_fits_93 : xcode (xmb mX1_fits) (xmo mX1_fits) 93 eX1_fits_93 = true := by decide +kernel
def wX1_fits_53 (p1 : Int32) (p2 : Int32) (Q : Int32 → xM → Prop) (M : xM) (s0 : Int32) : Prop :=
    (s0 &&& 1 = s0) ∧ Q s0 M
set_option maxHeartbeats 4000000 in
set_option maxRecDepth 100000 in
theorem tX1_fits_53 {l : Launch} {E : xE} {p1 : Int32} {p2 : Int32} {Q : Int32 → xM → Prop} (M : xM) (s0 : Int32) (h : wX1_fits_53 p1 p2 Q M s0) : Gx l E mX1_fits (xRi Q) 53 M [none, none] [.int s0] := by
  unfold wX1_fits_53 at h
  exact Gx_iret (by decide +kernel) rfl (congrArg Value.int h.1) ⟨_, rfl, h.2⟩
def wX1_fits_52 (p1 : Int32) (p2 : Int32) (Q : Int32 → xM → Prop) (M : xM) : Prop :=
    wX1_fits_53 p1 p2 Q M (0 : Int32)
set_option maxHeartbeats 4000000 in
set_option maxRecDepth 100000 in
theorem tX1_fits_52 {l : Launch} {E : xE} {p1 : Int32} {p2 : Int32} {Q : Int32 → xM → Prop} (M : xM) (h : wX1_fits_52 p1 p2 Q M ) : Gx l E mX1_fits (xRi Q) 52 M [none, none] [] := by
  unfold wX1_fits_52 at h
  refine Gx_run (es := eX1_fits_52) (P := []) (M' := M) (L' := [none, none]) (st' := [.int (0 : Int32)]) (pc' := 53) kX1_fits_52 rfl trivial rfl ?_
  refine Gx_mask [false, false] (L' := [none, none]) rfl ?_
  exact tX1_fits_53  M (0 : Int32) h
def wX1_fits_87 (p1 : Int32) (p2 : Int32) (Q : Int32 → xM → Prop) (M : xM) (s0 : Int32) : Prop :=
    (s0 &&& 1 = s0) ∧ Q s0 M
set_option maxHeartbeats 4000000 in
set_option maxRecDepth 100000 in
theorem tX1_fits_87 {l : Launch} {E : xE} {p1 : Int32} {p2 : Int32} {Q : Int32 → xM → Prop} (M : xM) (s0 : Int32) (h : wX1_fits_87 p1 p2 Q M s0) : Gx l E mX1_fits (xRi Q) 87 M [none, none] [.int s0] := by
  unfold wX1_fits_87 at h
  exact Gx_iret (by decide +kernel) rfl (congrArg Value.int h.1) ⟨_, rfl, h.2⟩
def wX1_fits_86 (p1 : Int32) (p2 : Int32) (Q : Int32 → xM → Prop) (M : xM) : Prop :=
    wX1_fits_87 p1 p2 Q M (0 : Int32)
set_option maxHeartbeats 4000000 in
set_option maxRecDepth 100000 in
theorem tX1_fits_86 {l : Launch} {E : xE} {p1 : Int32} {p2 : Int32} {Q : Int32 → xM → Prop} (M : xM) (h : wX1_fits_86 p1 p2 Q M ) : Gx l E mX1_fits (xRi Q) 86 M [none, none] [] := by
  unfold wX1_fits_86 at h
  refine Gx_run (es := eX1_fits_86) (P := []) (M' := M) (L' := [none, none]) (st' := [.int (0 : Int32)]) (pc' := 87) kX1_fits_86 rfl trivial rfl ?_
  refine Gx_mask [false, false] (L' := [none, none]) rfl ?_
  exact tX1_fits_87  M (0 : Int32) h
def wX1_fits_69 (p1 : Int32) (p2 : Int32) (Q : Int32 → xM → Prop) (M : xM) (s0 : Int32) : Prop :=
    (s0 &&& 1 = s0) ∧ Q s0 M
set_option maxHeartbeats 4000000 in
set_option maxRecDepth 100000 in
theorem tX1_fits_69 {l : Launch} {E : xE} {p1 : Int32} {p2 : Int32} {Q : Int32 → xM → Prop} (M : xM) (s0 : Int32) (h : wX1_fits_69 p1 p2 Q M s0) : Gx l E mX1_fits (xRi Q) 69 M [none, none] [.int s0] := by
  unfold wX1_fits_69 at h
  exact Gx_iret (by decide +kernel) rfl (congrArg Value.int h.1) ⟨_, rfl, h.2⟩
def wX1_fits_98 (p1 : Int32) (p2 : Int32) (Q : Int32 → xM → Prop) (M : xM) (s0 : Int32) : Prop :=
    (s0 &&& 1 = s0) ∧ Q s0 M
set_option maxHeartbeats 4000000 in
set_option maxRecDepth 100000 in
theorem tX1_fits_98 {l : Launch} {E : xE} {p1 : Int32} {p2 : Int32} {Q : Int32 → xM → Prop} (M : xM) (s0 : Int32) (h : wX1_fits_98 p1 p2 Q M s0) : Gx l E mX1_fits (xRi Q) 98 M [none, none] [.int s0] := by
  unfold wX1_fits_98 at h
  exact Gx_iret (by decide +kernel) rfl (congrArg Value.int h.1) ⟨_, rfl, h.2⟩
def wX1_fits (M : xM) (p1 : Int32) (p2 : Int32) (Q : Int32 → xM → Prop) : Prop :=
    (((p1 = (57 : Int32)) → ((((p2 < (48 : Int32)) → (wX1_fits_52 p1 p2 Q M)) ∧ ((¬ p2 < (48 : Int32)) → (((((57 : Int32) < p2) → (wX1_fits_52 p1 p2 Q M)) ∧ ((¬ (57 : Int32) < p2) → (wX1_fits_53 p1 p2 Q M (1 : Int32))))))))) ∧ ((¬ p1 = (57 : Int32)) → (((p1 = (97 : Int32)) → ((((p2 < (97 : Int32)) → (wX1_fits_86 p1 p2 Q M)) ∧ ((¬ p2 < (97 : Int32)) → (((((122 : Int32) < p2) → (wX1_fits_86 p1 p2 Q M)) ∧ ((¬ (122 : Int32) < p2) → (wX1_fits_87 p1 p2 Q M (1 : Int32))))))))) ∧ ((¬ p1 = (97 : Int32)) → (((p1 = (107 : Int32)) → (wJ0_indexOf_0f7a4 M 117 (p2.toUInt32 % 65536).toInt32 (fun r58 M58 => (((r58 < 0) → (wX1_fits_69 p1 p2 Q M58 (0 : Int32))) ∧ ((¬ r58 < 0) → (wX1_fits_69 p1 p2 Q M58 (1 : Int32))))))) ∧ ((¬ p1 = (107 : Int32)) → ((((¬ p2 = p1) → (wX1_fits_98 p1 p2 Q M (0 : Int32))) ∧ ((p2 = p1) → (wX1_fits_98 p1 p2 Q M (1 : Int32)))))))))))
set_option maxHeartbeats 4000000 in
set_option maxRecDepth 100000 in
theorem tX1_fits {l : Launch} {E : xE} {M : xM} {p1 : Int32} {p2 : Int32} {Q : Int32 → xM → Prop} (h : wX1_fits M p1 p2 Q) : Ct l E mX1_fits [.int p1, .int p2] M (xRi Q) := by
  refine Ct_of (by decide +kernel) rfl (Nat.le_of_ble_eq_true rfl) ?_
  unfold wX1_fits at h
  show Gx l E mX1_fits (xRi Q) 0 M [some (.int p1), some (.int p2)] []
  refine Gx_run (es := eX1_fits_0) (P := []) (M' := M) (L' := [some (.int p1), some (.int p2)]) (st' := [.int p1]) (pc' := 1) kX1_fits_0 rfl trivial rfl ?_
  by_cases z57 : p1 = (57 : Int32)
  · have h := h.1 z57
    refine Gx_lookAt (dflt := 87) (ps := #[(57, 35), (97, 69), (107, 53)]) (len := 35) z57 (by decide +kernel) (by decide) (off := 35) (tgt := 36) rfl (by decide) ?_
    refine Gx_run (es := eX1_fits_36) (P := []) (M' := M) (L' := [some (.int p1), some (.int p2)]) (st' := [.int (48 : Int32), .int p2]) (pc' := 39) kX1_fits_36 rfl trivial rfl ?_
    refine Gx_icmp_lt (off := 13) (tgt := 52) (by decide +kernel) (by decide) (fun z => ?_) (fun z => ?_)
    · have h := h.1 z
      refine Gx_mask [false, false] (L' := [none, none]) rfl ?_
      exact tX1_fits_52  M h
    · have h := h.2 z
      refine Gx_run (es := eX1_fits_42) (P := []) (M' := M) (L' := [some (.int p1), some (.int p2)]) (st' := [.int (57 : Int32), .int p2]) (pc' := 45) kX1_fits_42 rfl trivial rfl ?_
      refine Gx_icmp_gt (off := 7) (tgt := 52) (by decide +kernel) (by decide) (fun z => ?_) (fun z => ?_)
      · have h := h.1 z
        refine Gx_mask [false, false] (L' := [none, none]) rfl ?_
        exact tX1_fits_52  M h
      · have h := h.2 z
        refine Gx_run (es := eX1_fits_48) (P := []) (M' := M) (L' := [some (.int p1), some (.int p2)]) (st' := [.int (1 : Int32)]) (pc' := 49) kX1_fits_48 rfl trivial rfl ?_
        refine Gx_goto (off := 4) (tgt := 53) (by decide +kernel) (by decide) ?_
        refine Gx_mask [false, false] (L' := [none, none]) rfl ?_
        exact tX1_fits_53  M (1 : Int32) h
  replace h := h.2 z57
  by_cases z97 : p1 = (97 : Int32)
  · have h := h.1 z97
    refine Gx_lookAt (dflt := 87) (ps := #[(57, 35), (97, 69), (107, 53)]) (len := 35) z97 (by decide +kernel) (by decide) (off := 69) (tgt := 70) rfl (by decide) ?_
    refine Gx_run (es := eX1_fits_70) (P := []) (M' := M) (L' := [some (.int p1), some (.int p2)]) (st' := [.int (97 : Int32), .int p2]) (pc' := 73) kX1_fits_70 rfl trivial rfl ?_
    refine Gx_icmp_lt (off := 13) (tgt := 86) (by decide +kernel) (by decide) (fun z => ?_) (fun z => ?_)
    · have h := h.1 z
      refine Gx_mask [false, false] (L' := [none, none]) rfl ?_
      exact tX1_fits_86  M h
    · have h := h.2 z
      refine Gx_run (es := eX1_fits_76) (P := []) (M' := M) (L' := [some (.int p1), some (.int p2)]) (st' := [.int (122 : Int32), .int p2]) (pc' := 79) kX1_fits_76 rfl trivial rfl ?_
      refine Gx_icmp_gt (off := 7) (tgt := 86) (by decide +kernel) (by decide) (fun z => ?_) (fun z => ?_)
      · have h := h.1 z
        refine Gx_mask [false, false] (L' := [none, none]) rfl ?_
        exact tX1_fits_86  M h
      · have h := h.2 z
        refine Gx_run (es := eX1_fits_82) (P := []) (M' := M) (L' := [some (.int p1), some (.int p2)]) (st' := [.int (1 : Int32)]) (pc' := 83) kX1_fits_82 rfl trivial rfl ?_
        refine Gx_goto (off := 4) (tgt := 87) (by decide +kernel) (by decide) ?_
        refine Gx_mask [false, false] (L' := [none, none]) rfl ?_
        exact tX1_fits_87  M (1 : Int32) h
  replace h := h.2 z97
  by_cases z107 : p1 = (107 : Int32)
  · have h := h.1 z107
    refine Gx_lookAt (dflt := 87) (ps := #[(57, 35), (97, 69), (107, 53)]) (len := 35) z107 (by decide +kernel) (by decide) (off := 53) (tgt := 54) rfl (by decide) ?_
    refine Gx_run (es := eX1_fits_54) (P := []) (M' := M) (L' := [some (.int p1), some (.int p2)]) (st' := [.int (p2.toUInt32 % 65536).toInt32, .ref 117]) (pc' := 58) kX1_fits_54 rfl trivial rfl ?_
    refine Gx_callTp (As := [.int (p2.toUInt32 % 65536).toInt32]) (by decide +kernel) ml_1_28 okJ0_indexOf_0f7a4 mvJ0_indexOf_0f7a4 rfl (by decide) (Nat.le_of_ble_eq_true rfl) (show 110 ≤ 117 ∧ 117 < 119 by decide) rfl (tJ0_indexOf_0f7a4 (show 110 ≤ 117 ∧ 117 < 119 by decide) h) (fun rr M58 qq => ?_)
    obtain ⟨r58, rfl, h⟩ := qq
    show Gx l E mX1_fits _ 61 M58 [some (.int p1), some (.int p2)] [.int r58]
    refine Gx_if_lt (off := 7) (tgt := 68) (by decide +kernel) (by decide) (fun z => ?_) (fun z => ?_)
    · have h := h.1 z
      refine Gx_run (es := eX1_fits_68) (P := []) (M' := M58) (L' := [some (.int p1), some (.int p2)]) (st' := [.int (0 : Int32)]) (pc' := 69) kX1_fits_68 rfl trivial rfl ?_
      refine Gx_mask [false, false] (L' := [none, none]) rfl ?_
      exact tX1_fits_69  M58 (0 : Int32) h
    · have h := h.2 z
      refine Gx_run (es := eX1_fits_64) (P := []) (M' := M58) (L' := [some (.int p1), some (.int p2)]) (st' := [.int (1 : Int32)]) (pc' := 65) kX1_fits_64 rfl trivial rfl ?_
      refine Gx_goto (off := 4) (tgt := 69) (by decide +kernel) (by decide) ?_
      refine Gx_mask [false, false] (L' := [none, none]) rfl ?_
      exact tX1_fits_69  M58 (1 : Int32) h
  replace h := h.2 z107
  refine Gx_lookup (dflt := 87) (ps := #[(57, 35), (97, 69), (107, 53)]) (len := 35) (by decide +kernel) (by decide) (off := 87) (tgt := 88) ?_ (by decide) ?_
  · show Op.lookupswitch.offset [(57, 35), (97, 69), (107, 53)] 87 _ = _
    rw [lv_osw z57 (by decide), lv_osw z97 (by decide), lv_osw z107 (by decide)]
    rfl
  refine Gx_run (es := eX1_fits_88) (P := []) (M' := M) (L' := [some (.int p1), some (.int p2)]) (st' := [.int p1, .int p2]) (pc' := 90) kX1_fits_88 rfl trivial rfl ?_
  refine Gx_icmp_ne (off := 7) (tgt := 97) (by decide +kernel) (by decide) (fun z => ?_) (fun z => ?_)
  · have h := h.1 z
    refine Gx_run (es := eX1_fits_97) (P := []) (M' := M) (L' := [some (.int p1), some (.int p2)]) (st' := [.int (0 : Int32)]) (pc' := 98) kX1_fits_97 rfl trivial rfl ?_
    refine Gx_mask [false, false] (L' := [none, none]) rfl ?_
    exact tX1_fits_98  M (0 : Int32) h
  · have h := h.2 z
    refine Gx_run (es := eX1_fits_93) (P := []) (M' := M) (L' := [some (.int p1), some (.int p2)]) (st' := [.int (1 : Int32)]) (pc' := 94) kX1_fits_93 rfl trivial rfl ?_
    refine Gx_goto (off := 4) (tgt := 98) (by decide +kernel) (by decide) ?_
    refine Gx_mask [false, false] (L' := [none, none]) rfl ?_
    exact tX1_fits_98  M (1 : Int32) h
def eX1_kindAt_0 : List xI := [(.ldc 26, 2, 1, 7, 0), (.aload_n 0, 1, 0, 0, 0), (.iload_n 1, 1, 0, 0, 0)]
theorem kX1_kindAt_0 : xcode (xmb mX1_kindAt) (xmo mX1_kindAt) 0 eX1_kindAt_0 = true := by decide +kernel
def eX1_kindAt_7 : List xI := [(.i2c, 1, 0, 0, 0)]
theorem kX1_kindAt_7 : xcode (xmb mX1_kindAt) (xmo mX1_kindAt) 7 eX1_kindAt_7 = true := by decide +kernel
def wX1_kindAt (M : xM) (p1 : Int32) (Q : Int32 → xM → Prop) : Prop :=
    wX1_signAt M p1 (fun r4 M4 => wJ0_indexOf_0f7a4 M4 117 (r4.toUInt32 % 65536).toInt32 (fun r8 M8 => Q r8 M8))
set_option maxHeartbeats 4000000 in
set_option maxRecDepth 100000 in
theorem tX1_kindAt {l : Launch} {E : xE} {M : xM} {p1 : Int32} {Q : Int32 → xM → Prop} (h : wX1_kindAt M p1 Q) : Ct l E mX1_kindAt [.ref 46, .int p1] M (xRi Q) := by
  refine Ct_of (by decide +kernel) rfl (Nat.le_of_ble_eq_true rfl) ?_
  unfold wX1_kindAt at h
  show Gx l E mX1_kindAt (xRi Q) 0 M [some (.ref 46), some (.int p1)] []
  refine Gx_run (es := eX1_kindAt_0) (P := []) (M' := M) (L' := [some (.ref 46), some (.int p1)]) (st' := [.int p1, .ref 46, .ref 117]) (pc' := 4) kX1_kindAt_0 rfl trivial rfl ?_
  refine Gx_callV (As := [.int p1]) (by decide +kernel) ml_1_19 okX1_signAt mvX1_signAt rfl (by decide) (Nat.le_of_ble_eq_true rfl) rfl rfl rfl (tX1_signAt h) (fun rr M4 qq => ?_)
  obtain ⟨r4, rfl, h⟩ := qq
  show Gx l E mX1_kindAt _ 7 M4 [some (.ref 46), some (.int p1)] [.int r4, .ref 117]
  refine Gx_run (es := eX1_kindAt_7) (P := []) (M' := M4) (L' := [some (.ref 46), some (.int p1)]) (st' := [.int (r4.toUInt32 % 65536).toInt32, .ref 117]) (pc' := 8) kX1_kindAt_7 rfl trivial rfl ?_
  refine Gx_callTp (As := [.int (r4.toUInt32 % 65536).toInt32]) (by decide +kernel) ml_1_28 okJ0_indexOf_0f7a4 mvJ0_indexOf_0f7a4 rfl (by decide) (Nat.le_of_ble_eq_true rfl) (show 110 ≤ 117 ∧ 117 < 119 by decide) rfl (tJ0_indexOf_0f7a4 (show 110 ≤ 117 ∧ 117 < 119 by decide) h) (fun rr M8 qq => ?_)
  obtain ⟨r8, rfl, h⟩ := qq
  show Gx l E mX1_kindAt _ 11 M8 [some (.ref 46), some (.int p1)] [.int r8]
  exact Gx_iret (by decide +kernel) rfl rfl ⟨_, rfl, h⟩
def eX1_placeOfWrongStatement_0 : List xI := [(.iconst 0, 1, 0, 0, (0)), (.istore_n 1, 1, 0, 0, 0), (.iconst 0, 1, 0, 0, (0)), (.istore_n 2, 1, 0, 0, 0)]
theorem kX1_placeOfWrongStatement_0 : xcode (xmb mX1_placeOfWrongStatement) (xmo mX1_placeOfWrongStatement) 0 eX1_placeOfWrongStatement_0 = true := by decide +kernel
def eX1_placeOfWrongStatement_4 : List xI := [(.iload_n 2, 1, 0, 0, 0), (.bipush 96, 2, 0, 0, (96))]
theorem kX1_placeOfWrongStatement_4 : xcode (xmb mX1_placeOfWrongStatement) (xmo mX1_placeOfWrongStatement) 4 eX1_placeOfWrongStatement_4 = true := by decide +kernel
def eX1_placeOfWrongStatement_42 : List xI := [(.bipush (-9), 2, 0, 0, (-9))]
theorem kX1_placeOfWrongStatement_42 : xcode (xmb mX1_placeOfWrongStatement) (xmo mX1_placeOfWrongStatement) 42 eX1_placeOfWrongStatement_42 = true := by decide +kernel
def eX1_placeOfWrongStatement_10 : List xI := [(.iload_n 1, 1, 0, 0, 0), (.aload_n 0, 1, 0, 0, 0), (.getfield 15, 3, 1, 1, 0)]
theorem kX1_placeOfWrongStatement_10 : xcode (xmb mX1_placeOfWrongStatement) (xmo mX1_placeOfWrongStatement) 10 eX1_placeOfWrongStatement_10 = true := by decide +kernel
def eX1_placeOfWrongStatement_18 : List xI := [(.aload_n 0, 1, 0, 0, 0), (.iload_n 1, 1, 0, 0, 0)]
theorem kX1_placeOfWrongStatement_18 : xcode (xmb mX1_placeOfWrongStatement) (xmo mX1_placeOfWrongStatement) 18 eX1_placeOfWrongStatement_18 = true := by decide +kernel
def eX1_placeOfWrongStatement_28 : List xI := [(.iload_n 1, 1, 0, 0, 0), (.aload_n 0, 1, 0, 0, 0), (.iload_n 1, 1, 0, 0, 0)]
theorem kX1_placeOfWrongStatement_28 : xcode (xmb mX1_placeOfWrongStatement) (xmo mX1_placeOfWrongStatement) 28 eX1_placeOfWrongStatement_28 = true := by decide +kernel
def eX1_placeOfWrongStatement_34 : List xI := [(.iadd, 1, 0, 0, 0), (.istore_n 1, 1, 0, 0, 0), (.iinc 2 1, 3, 0, 0, (1))]
theorem kX1_placeOfWrongStatement_34 : xcode (xmb mX1_placeOfWrongStatement) (xmo mX1_placeOfWrongStatement) 34 eX1_placeOfWrongStatement_34 = true := by decide +kernel
def eX1_placeOfWrongStatement_26 : List xI := [(.iload_n 1, 1, 0, 0, 0)]
theorem kX1_placeOfWrongStatement_26 : xcode (xmb mX1_placeOfWrongStatement) (xmo mX1_placeOfWrongStatement) 26 eX1_placeOfWrongStatement_26 = true := by decide +kernel
def wX1_placeOfWrongStatement_42 (Q : Int32 → xM → Prop) (M : xM) : Prop :=
    Q (-9 : Int32) M
set_option maxHeartbeats 4000000 in
set_option maxRecDepth 100000 in
theorem tX1_placeOfWrongStatement_42 {l : Launch} {E : xE} {Q : Int32 → xM → Prop} (M : xM) (h : wX1_placeOfWrongStatement_42  Q M ) : Gx l E mX1_placeOfWrongStatement (xRi Q) 42 M [none, none, none] [] := by
  unfold wX1_placeOfWrongStatement_42 at h
  refine Gx_run (es := eX1_placeOfWrongStatement_42) (P := []) (M' := M) (L' := [none, none, none]) (st' := [.int (-9 : Int32)]) (pc' := 44) kX1_placeOfWrongStatement_42 rfl trivial rfl ?_
  exact Gx_iret (by decide +kernel) rfl rfl ⟨_, rfl, h⟩
def lX1_placeOfWrongStatement_4 (Q : Int32 → xM → Prop) : Nat → xM → Int32 → Int32 → Prop
  | 0 => fun _ _ _ => False
  | n + 1 => let k4 := lX1_placeOfWrongStatement_4  Q n; fun M a1 a2 =>
    ((((96 : Int32) ≤ a2) → (wX1_placeOfWrongStatement_42  Q M)) ∧ ((¬ (96 : Int32) ≤ a2) → (((((M 46 1) ≤ a1) → (wX1_placeOfWrongStatement_42  Q M)) ∧ ((¬ (M 46 1) ≤ a1) → (wX1_stands M a1 (fun r20 M20 => (((¬ r20 = 0) → (wX1_lengthAt M20 a1 (fun r31 M31 => k4 M31 (a1 + r31) (a2 + (1 : Int32))))) ∧ ((r20 = 0) → (Q a1 M20))))))))))
set_option maxHeartbeats 4000000 in
set_option maxRecDepth 100000 in
theorem tX1_placeOfWrongStatement_4 {l : Launch} {E : xE} {Q : Int32 → xM → Prop} (n : Nat) : ∀ (M : xM) (a1 : Int32) (a2 : Int32), lX1_placeOfWrongStatement_4  Q n M a1 a2 → Gx l E mX1_placeOfWrongStatement (xRi Q) 4 M [some (.ref 46), some (.int a1), some (.int a2)] [] := by
  induction n with
  | zero => intro M a1 a2 h; exact h.elim
  | succ n hk4 =>
      intro M a1 a2 h
      unfold lX1_placeOfWrongStatement_4 at h
      dsimp only at h
      refine Gx_run (es := eX1_placeOfWrongStatement_4) (P := []) (M' := M) (L' := [some (.ref 46), some (.int a1), some (.int a2)]) (st' := [.int (96 : Int32), .int a2]) (pc' := 7) kX1_placeOfWrongStatement_4 rfl trivial rfl ?_
      refine Gx_icmp_ge (off := 35) (tgt := 42) (by decide +kernel) (by decide) (fun z => ?_) (fun z => ?_)
      · have h := h.1 z
        refine Gx_mask [false, false, false] (L' := [none, none, none]) rfl ?_
        exact tX1_placeOfWrongStatement_42  M h
      · have h := h.2 z
        refine Gx_run (es := eX1_placeOfWrongStatement_10) (P := [xkd 46 = 1]) (M' := M) (L' := [some (.ref 46), some (.int a1), some (.int a2)]) (st' := [.int (M 46 1), .int a1]) (pc' := 15) kX1_placeOfWrongStatement_10 rfl ⟨rfl, trivial⟩ rfl ?_
        refine Gx_icmp_ge (off := 27) (tgt := 42) (by decide +kernel) (by decide) (fun z => ?_) (fun z => ?_)
        · have h := h.1 z
          refine Gx_mask [false, false, false] (L' := [none, none, none]) rfl ?_
          exact tX1_placeOfWrongStatement_42  M h
        · have h := h.2 z
          refine Gx_run (es := eX1_placeOfWrongStatement_18) (P := []) (M' := M) (L' := [some (.ref 46), some (.int a1), some (.int a2)]) (st' := [.int a1, .ref 46]) (pc' := 20) kX1_placeOfWrongStatement_18 rfl trivial rfl ?_
          refine Gx_callV (As := [.int a1]) (by decide +kernel) ml_1_63 okX1_stands mvX1_stands rfl (by decide) (Nat.le_of_ble_eq_true rfl) rfl rfl rfl (tX1_stands h) (fun rr M20 qq => ?_)
          obtain ⟨r20, rfl, h⟩ := qq
          show Gx l E mX1_placeOfWrongStatement _ 23 M20 [some (.ref 46), some (.int a1), some (.int a2)] [.int r20]
          refine Gx_if_ne (off := 5) (tgt := 28) (by decide +kernel) (by decide) (fun z => ?_) (fun z => ?_)
          · have h := h.1 z
            refine Gx_run (es := eX1_placeOfWrongStatement_28) (P := []) (M' := M20) (L' := [some (.ref 46), some (.int a1), some (.int a2)]) (st' := [.int a1, .ref 46, .int a1]) (pc' := 31) kX1_placeOfWrongStatement_28 rfl trivial rfl ?_
            refine Gx_callV (As := [.int a1]) (by decide +kernel) ml_1_50 okX1_lengthAt mvX1_lengthAt rfl (by decide) (Nat.le_of_ble_eq_true rfl) rfl rfl rfl (tX1_lengthAt h) (fun rr M31 qq => ?_)
            obtain ⟨r31, rfl, h⟩ := qq
            show Gx l E mX1_placeOfWrongStatement _ 34 M31 [some (.ref 46), some (.int a1), some (.int a2)] [.int r31, .int a1]
            refine Gx_run (es := eX1_placeOfWrongStatement_34) (P := []) (M' := M31) (L' := [some (.ref 46), some (.int (a1 + r31)), some (.int (a2 + (1 : Int32)))]) (st' := []) (pc' := 39) kX1_placeOfWrongStatement_34 rfl trivial rfl ?_
            refine Gx_goto (off := -35) (tgt := 4) (by decide +kernel) (by decide) ?_
            refine Gx_mask [true, true, true] (L' := [some (.ref 46), some (.int (a1 + r31)), some (.int (a2 + (1 : Int32)))]) rfl ?_
            exact hk4 M31 (a1 + r31) (a2 + (1 : Int32)) h
          · have h := h.2 z
            refine Gx_run (es := eX1_placeOfWrongStatement_26) (P := []) (M' := M20) (L' := [some (.ref 46), some (.int a1), some (.int a2)]) (st' := [.int a1]) (pc' := 27) kX1_placeOfWrongStatement_26 rfl trivial rfl ?_
            exact Gx_iret (by decide +kernel) rfl rfl ⟨_, rfl, h⟩
def wX1_placeOfWrongStatement (M : xM) (Q : Int32 → xM → Prop) : Prop :=
    (∃ n : Nat, lX1_placeOfWrongStatement_4  Q n M (0 : Int32) (0 : Int32))
set_option maxHeartbeats 4000000 in
set_option maxRecDepth 100000 in
theorem tX1_placeOfWrongStatement {l : Launch} {E : xE} {M : xM} {Q : Int32 → xM → Prop} (h : wX1_placeOfWrongStatement M  Q) : Ct l E mX1_placeOfWrongStatement [.ref 46] M (xRi Q) := by
  refine Ct_of (by decide +kernel) rfl (Nat.le_of_ble_eq_true rfl) ?_
  unfold wX1_placeOfWrongStatement at h
  show Gx l E mX1_placeOfWrongStatement (xRi Q) 0 M [some (.ref 46), none, none] []
  refine Gx_run (es := eX1_placeOfWrongStatement_0) (P := []) (M' := M) (L' := [some (.ref 46), some (.int (0 : Int32)), some (.int (0 : Int32))]) (st' := []) (pc' := 4) kX1_placeOfWrongStatement_0 rfl trivial rfl ?_
  refine Gx_mask [true, true, true] (L' := [some (.ref 46), some (.int (0 : Int32)), some (.int (0 : Int32))]) rfl ?_
  obtain ⟨n, h⟩ := h
  exact tX1_placeOfWrongStatement_4  n M (0 : Int32) (0 : Int32) h
