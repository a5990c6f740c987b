/-! walks: X0_mendPointers, X1_stands, X2_blocksBelow, X2_inodesBelow, X3_shared, X4_blocksBelow -/
def eX0_mendPointers_0 : List xI := [(.aload_n 0, 1, 0, 0, 0), (.getfield 12, 3, 0, 0, 0), (.iconst 0, 1, 0, 0, (0))]
theorem kX0_mendPointers_0 : xcode (xmb mX0_mendPointers) (xmo mX0_mendPointers) 0 eX0_mendPointers_0 = true := by decide +kernel
def eX0_mendPointers_39 : List xI := [(.iconst 0, 1, 0, 0, (0)), (.istore_n 1, 1, 0, 0, 0), (.iconst 0, 1, 0, 0, (0)), (.istore_n 2, 1, 0, 0, 0)]
theorem kX0_mendPointers_39 : xcode (xmb mX0_mendPointers) (xmo mX0_mendPointers) 39 eX0_mendPointers_39 = true := by decide +kernel
def eX0_mendPointers_43 : List xI := [(.iload_n 2, 1, 0, 0, 0), (.bipush 10, 2, 0, 0, (10))]
theorem kX0_mendPointers_43 : xcode (xmb mX0_mendPointers) (xmo mX0_mendPointers) 43 eX0_mendPointers_43 = true := by decide +kernel
def eX0_mendPointers_49 : List xI := [(.iconst 0, 1, 0, 0, (0)), (.istore_n 3, 1, 0, 0, 0)]
theorem kX0_mendPointers_49 : xcode (xmb mX0_mendPointers) (xmo mX0_mendPointers) 49 eX0_mendPointers_49 = true := by decide +kernel
def eX0_mendPointers_51 : List xI := [(.iload_n 3, 1, 0, 0, 0), (.iconst 3, 1, 0, 0, (3))]
theorem kX0_mendPointers_51 : xcode (xmb mX0_mendPointers) (xmo mX0_mendPointers) 51 eX0_mendPointers_51 = true := by decide +kernel
def eX0_mendPointers_142 : List xI := [(.iinc 2 1, 3, 0, 0, (1))]
theorem kX0_mendPointers_142 : xcode (xmb mX0_mendPointers) (xmo mX0_mendPointers) 142 eX0_mendPointers_142 = true := by decide +kernel
def eX0_mendPointers_56 : List xI := [(.iconst 3, 1, 0, 0, (3)), (.iload_n 2, 1, 0, 0, 0), (.imul, 1, 0, 0, 0), (.iload_n 3, 1, 0, 0, 0), (.iadd, 1, 0, 0, 0), (.istore 4, 2, 0, 0, 0), (.aload_n 0, 1, 0, 0, 0), (.iload_n 2, 1, 0, 0, 0), (.iload_n 3, 1, 0, 0, 0), (.iload_n 1, 1, 0, 0, 0)]
theorem kX0_mendPointers_56 : xcode (xmb mX0_mendPointers) (xmo mX0_mendPointers) 56 eX0_mendPointers_56 = true := by decide +kernel
def eX0_mendPointers_70 : List xI := [(.istore 5, 2, 0, 0, 0), (.iload 5, 2, 0, 0, 0)]
theorem kX0_mendPointers_70 : xcode (xmb mX0_mendPointers) (xmo mX0_mendPointers) 70 eX0_mendPointers_70 = true := by decide +kernel
def eX0_mendPointers_124 : List xI := [(.iload_n 1, 1, 0, 0, 0), (.aload_n 0, 1, 0, 0, 0), (.getfield 12, 3, 0, 0, 0), (.iload_n 2, 1, 0, 0, 0), (.iload_n 3, 1, 0, 0, 0)]
theorem kX0_mendPointers_124 : xcode (xmb mX0_mendPointers) (xmo mX0_mendPointers) 124 eX0_mendPointers_124 = true := by decide +kernel
def eX0_mendPointers_134 : List xI := [(.ior, 1, 0, 0, 0), (.istore_n 1, 1, 0, 0, 0), (.iinc 3 1, 3, 0, 0, (1))]
theorem kX0_mendPointers_134 : xcode (xmb mX0_mendPointers) (xmo mX0_mendPointers) 134 eX0_mendPointers_134 = true := by decide +kernel
def eX0_mendPointers_77 : List xI := [(.aload_n 0, 1, 0, 0, 0), (.iload 5, 2, 0, 0, 0), (.iload_n 2, 1, 0, 0, 0), (.iload_n 3, 1, 0, 0, 0)]
theorem kX0_mendPointers_77 : xcode (xmb mX0_mendPointers) (xmo mX0_mendPointers) 77 eX0_mendPointers_77 = true := by decide +kernel
def eX0_mendPointers_88 : List xI := [(.aload_n 0, 1, 0, 0, 0), (.getfield 12, 3, 0, 0, 0), (.getfield 79, 3, 2, 3, 0), (.iload 4, 2, 0, 0, 0), (.iload 5, 2, 0, 0, 0), (.iconst 4, 1, 0, 0, (4))]
theorem kX0_mendPointers_88 : xcode (xmb mX0_mendPointers) (xmo mX0_mendPointers) 88 eX0_mendPointers_88 = true := by decide +kernel
def eX0_mendPointers_121 : List xI := [(.bipush (-9), 2, 0, 0, (-9))]
theorem kX0_mendPointers_121 : xcode (xmb mX0_mendPointers) (xmo mX0_mendPointers) 121 eX0_mendPointers_121 = true := by decide +kernel
def eX0_mendPointers_123 : List xI := [(.iastore, 1, 0, 0, 0)]
theorem kX0_mendPointers_123 : xcode (xmb mX0_mendPointers) (xmo mX0_mendPointers) 123 eX0_mendPointers_123 = true := by decide +kernel
def eX0_mendPointers_103 : List xI := [(.aload_n 0, 1, 0, 0, 0), (.iload_n 2, 1, 0, 0, 0), (.aload_n 0, 1, 0, 0, 0), (.getfield 12, 3, 0, 0, 0), (.getfield 79, 3, 2, 3, 0), (.iload 4, 2, 0, 0, 0), (.iaload, 1, 0, 0, 0)]
theorem kX0_mendPointers_103 : xcode (xmb mX0_mendPointers) (xmo mX0_mendPointers) 103 eX0_mendPointers_103 = true := by decide +kernel
def eX0_mendPointers_11 : List xI := [(.aload_n 0, 1, 0, 0, 0), (.iconst 1, 1, 0, 0, (1)), (.iconst 0, 1, 0, 0, (0)), (.iconst 0, 1, 0, 0, (0))]
theorem kX0_mendPointers_11 : xcode (xmb mX0_mendPointers) (xmo mX0_mendPointers) 11 eX0_mendPointers_11 = true := by decide +kernel
def eX0_mendPointers_21 : List xI := [(.aload_n 0, 1, 0, 0, 0), (.getfield 12, 3, 0, 0, 0), (.iconst 0, 1, 0, 0, (0))]
theorem kX0_mendPointers_21 : xcode (xmb mX0_mendPointers) (xmo mX0_mendPointers) 21 eX0_mendPointers_21 = true := by decide +kernel
def eX0_mendPointers_29 : List xI := [(.aload_n 0, 1, 0, 0, 0), (.getfield 12, 3, 0, 0, 0), (.getfield 72, 3, 2, 0, 0), (.iconst 0, 1, 0, 0, (0)), (.iconst 2, 1, 0, 0, (2)), (.iastore, 1, 0, 0, 0)]
theorem kX0_mendPointers_29 : xcode (xmb mX0_mendPointers) (xmo mX0_mendPointers) 29 eX0_mendPointers_29 = true := by decide +kernel
def wX0_mendPointers_124 (c : Nat) (Q : xM → Prop) (k43 : xM → Int32 → Int32 → Prop) (k51 : xM → Int32 → Int32 → Int32 → Prop) (M : xM) (a1 : Int32) (a2 : Int32) (a3 : Int32) : Prop :=
    wX2_blockOf M (c + 1) a2 a3 (fun r131 M131 => k51 M131 (a1 ||| r131) a2 (a3 + (1 : Int32)))
set_option maxHeartbeats 4000000 in
set_option maxRecDepth 100000 in
theorem tX0_mendPointers_124 {l : Launch} {E : xE} {c : Nat} {Q : xM → Prop} {k43 : xM → Int32 → Int32 → Prop} {k51 : xM → Int32 → Int32 → Int32 → Prop} (h_c : xChk c) (hk43 : ∀ (M : xM) (a1 : Int32) (a2 : Int32), k43 M a1 a2 → Gx l E mX0_mendPointers (xRv Q) 43 M [some (.ref c), some (.int a1), some (.int a2), none, none, none] []) (hk51 : ∀ (M : xM) (a1 : Int32) (a2 : Int32) (a3 : Int32), k51 M a1 a2 a3 → Gx l E mX0_mendPointers (xRv Q) 51 M [some (.ref c), some (.int a1), some (.int a2), some (.int a3), none, none] []) (M : xM) (a1 : Int32) (a2 : Int32) (a3 : Int32) (h : wX0_mendPointers_124 c Q k43 k51 M a1 a2 a3) : Gx l E mX0_mendPointers (xRv Q) 124 M [some (.ref c), some (.int a1), some (.int a2), some (.int a3), none, none] [] := by
  unfold wX0_mendPointers_124 at h
  refine Gx_run (es := eX0_mendPointers_124) (P := [xkd c = 0]) (M' := M) (L' := [some (.ref c), some (.int a1), some (.int a2), some (.int a3), none, none]) (st' := [.int a3, .int a2, .ref (c + 1), .int a1]) (pc' := 131) kX0_mendPointers_124 rfl ⟨(xChk_0 h_c), trivial⟩ rfl ?_
  refine Gx_callV (As := [.int a2, .int a3]) (by decide +kernel) ml_0_86 okX2_blockOf mvX2_blockOf rfl (by decide) (Nat.le_of_ble_eq_true rfl) (xChk_1 h_c) rfl rfl (tX2_blockOf (xChk_v h_c) h) (fun rr M131 qq => ?_)
  obtain ⟨r131, rfl, h⟩ := qq
  show Gx l E mX0_mendPointers _ 134 M131 [some (.ref c), some (.int a1), some (.int a2), some (.int a3), none, none] [.int r131, .int a1]
  refine Gx_run (es := eX0_mendPointers_134) (P := []) (M' := M131) (L' := [some (.ref c), some (.int (a1 ||| r131)), some (.int a2), some (.int (a3 + (1 : Int32))), none, none]) (st' := []) (pc' := 139) kX0_mendPointers_134 rfl trivial rfl ?_
  refine Gx_goto (off := -88) (tgt := 51) (by decide +kernel) (by decide) ?_
  refine Gx_mask [true, true, true, true, false, false] (L' := [some (.ref c), some (.int (a1 ||| r131)), some (.int a2), some (.int (a3 + (1 : Int32))), none, none]) rfl ?_
  exact hk51 M131 (a1 ||| r131) a2 (a3 + (1 : Int32)) h
def wX0_mendPointers_123 (c : Nat) (Q : xM → Prop) (k43 : xM → Int32 → Int32 → Prop) (k51 : xM → Int32 → Int32 → Int32 → Prop) (M : xM) (a1 : Int32) (a2 : Int32) (a3 : Int32) (s0 : Int32) (s1 : Int32) : Prop :=
    (vp_in s1 30) ∧ wX0_mendPointers_124 c Q k43 k51 (xup M (c + 5) s1.toNatClampNeg s0) a1 a2 a3
set_option maxHeartbeats 4000000 in
set_option maxRecDepth 100000 in
theorem tX0_mendPointers_123 {l : Launch} {E : xE} {c : Nat} {Q : xM → Prop} {k43 : xM → Int32 → Int32 → Prop} {k51 : xM → Int32 → Int32 → Int32 → Prop} (h_c : xChk c) (hk43 : ∀ (M : xM) (a1 : Int32) (a2 : Int32), k43 M a1 a2 → Gx l E mX0_mendPointers (xRv Q) 43 M [some (.ref c), some (.int a1), some (.int a2), none, none, none] []) (hk51 : ∀ (M : xM) (a1 : Int32) (a2 : Int32) (a3 : Int32), k51 M a1 a2 a3 → Gx l E mX0_mendPointers (xRv Q) 51 M [some (.ref c), some (.int a1), some (.int a2), some (.int a3), none, none] []) (M : xM) (a1 : Int32) (a2 : Int32) (a3 : Int32) (s0 : Int32) (s1 : Int32) (h : wX0_mendPointers_123 c Q k43 k51 M a1 a2 a3 s0 s1) : Gx l E mX0_mendPointers (xRv Q) 123 M [some (.ref c), some (.int a1), some (.int a2), some (.int a3), none, none] [.int s0, .int s1, .ref (c + 5)] := by
  unfold wX0_mendPointers_123 at h
  obtain ⟨g123_0, h⟩ := h
  refine Gx_run (es := eX0_mendPointers_123) (P := [xkd (c + 5) = 5, vp_in s1 (xln (c + 5))]) (M' := (xup M (c + 5) s1.toNatClampNeg s0)) (L' := [some (.ref c), some (.int a1), some (.int a2), some (.int a3), none, none]) (st' := []) (pc' := 124) kX0_mendPointers_123 rfl ⟨(xChk_5 h_c), (by rw [xChk_l5 h_c]; exact g123_0), trivial⟩ rfl ?_
  refine Gx_mask [true, true, true, true, false, false] (L' := [some (.ref c), some (.int a1), some (.int a2), some (.int a3), none, none]) rfl ?_
  exact tX0_mendPointers_124 h_c  hk43 hk51 (xup M (c + 5) s1.toNatClampNeg s0) a1 a2 a3 h
def lX0_mendPointers_51 (c : Nat) (Q : xM → Prop) (k43 : xM → Int32 → Int32 → Prop) : Nat → xM → Int32 → Int32 → Int32 → Prop
  | 0 => fun _ _ _ _ => False
  | n + 1 => let k51 := lX0_mendPointers_51 c Q k43 n; fun M a1 a2 a3 =>
    ((((3 : Int32) ≤ a3) → (k43 M a1 (a2 + (1 : Int32)))) ∧ ((¬ (3 : Int32) ≤ a3) → (wX0_faultOfPointer M c a2 a3 a1 (fun r67 M67 => (((r67 = 0) → (wX0_mendPointers_124 c Q k43 k51 M67 a1 a2 a3)) ∧ ((¬ r67 = 0) → (wX0_asks M67 c r67 a2 a3 (fun r82 M82 => (((r82 = 0) → (wX0_mendPointers_124 c Q k43 k51 M82 a1 a2 a3)) ∧ ((¬ r82 = 0) → ((((¬ r67 = (4 : Int32)) → (wX0_mendPointers_123 c Q k43 k51 M82 a1 a2 a3 (-9 : Int32) (((3 : Int32) * a2) + a3))) ∧ ((r67 = (4 : Int32)) → ((vp_in (((3 : Int32) * a2) + a3) 30) ∧ wX0_cloneFor M82 c a2 (M82 (c + 5) (((3 : Int32) * a2) + a3).toNatClampNeg) (fun r115 M115 => wX0_mendPointers_123 c Q k43 k51 M115 a1 a2 a3 r115 (((3 : Int32) * a2) + a3))))))))))))))))
set_option maxHeartbeats 4000000 in
set_option maxRecDepth 100000 in
theorem tX0_mendPointers_51 {l : Launch} {E : xE} {c : Nat} {Q : xM → Prop} {k43 : xM → Int32 → Int32 → Prop} (h_c : xChk c) (hk43 : ∀ (M : xM) (a1 : Int32) (a2 : Int32), k43 M a1 a2 → Gx l E mX0_mendPointers (xRv Q) 43 M [some (.ref c), some (.int a1), some (.int a2), none, none, none] []) (n : Nat) : ∀ (M : xM) (a1 : Int32) (a2 : Int32) (a3 : Int32), lX0_mendPointers_51 c Q k43 n M a1 a2 a3 → Gx l E mX0_mendPointers (xRv Q) 51 M [some (.ref c), some (.int a1), some (.int a2), some (.int a3), none, none] [] := by
  induction n with
  | zero => intro M a1 a2 a3 h; exact h.elim
  | succ n hk51 =>
      intro M a1 a2 a3 h
      unfold lX0_mendPointers_51 at h
      dsimp only at h
      refine Gx_run (es := eX0_mendPointers_51) (P := []) (M' := M) (L' := [some (.ref c), some (.int a1), some (.int a2), some (.int a3), none, none]) (st' := [.int (3 : Int32), .int a3]) (pc' := 53) kX0_mendPointers_51 rfl trivial rfl ?_
      refine Gx_icmp_ge (off := 89) (tgt := 142) (by decide +kernel) (by decide) (fun z => ?_) (fun z => ?_)
      · have h := h.1 z
        refine Gx_run (es := eX0_mendPointers_142) (P := []) (M' := M) (L' := [some (.ref c), some (.int a1), some (.int (a2 + (1 : Int32))), some (.int a3), none, none]) (st' := []) (pc' := 145) kX0_mendPointers_142 rfl trivial rfl ?_
        refine Gx_goto (off := -102) (tgt := 43) (by decide +kernel) (by decide) ?_
        refine Gx_mask [true, true, true, false, false, false] (L' := [some (.ref c), some (.int a1), some (.int (a2 + (1 : Int32))), none, none, none]) rfl ?_
        exact hk43 M a1 (a2 + (1 : Int32)) h
      · have h := h.2 z
        refine Gx_run (es := eX0_mendPointers_56) (P := []) (M' := M) (L' := [some (.ref c), some (.int a1), some (.int a2), some (.int a3), some (.int (((3 : Int32) * a2) + a3)), none]) (st' := [.int a1, .int a3, .int a2, .ref c]) (pc' := 67) kX0_mendPointers_56 rfl trivial rfl ?_
        refine Gx_callV (As := [.int a2, .int a3, .int a1]) (by decide +kernel) ml_0_75 okX0_faultOfPointer mvX0_faultOfPointer rfl (by decide) (Nat.le_of_ble_eq_true rfl) (xChk_0 h_c) rfl rfl (tX0_faultOfPointer h_c h) (fun rr M67 qq => ?_)
        obtain ⟨r67, rfl, h⟩ := qq
        show Gx l E mX0_mendPointers _ 70 M67 [some (.ref c), some (.int a1), some (.int a2), some (.int a3), some (.int (((3 : Int32) * a2) + a3)), none] [.int r67]
        refine Gx_run (es := eX0_mendPointers_70) (P := []) (M' := M67) (L' := [some (.ref c), some (.int a1), some (.int a2), some (.int a3), some (.int (((3 : Int32) * a2) + a3)), some (.int r67)]) (st' := [.int r67]) (pc' := 74) kX0_mendPointers_70 rfl trivial rfl ?_
        refine Gx_if_eq (off := 50) (tgt := 124) (by decide +kernel) (by decide) (fun z => ?_) (fun z => ?_)
        · have h := h.1 z
          refine Gx_mask [true, true, true, true, false, false] (L' := [some (.ref c), some (.int a1), some (.int a2), some (.int a3), none, none]) rfl ?_
          exact tX0_mendPointers_124 h_c  hk43 hk51 M67 a1 a2 a3 h
        · have h := h.2 z
          refine Gx_run (es := eX0_mendPointers_77) (P := []) (M' := M67) (L' := [some (.ref c), some (.int a1), some (.int a2), some (.int a3), some (.int (((3 : Int32) * a2) + a3)), some (.int r67)]) (st' := [.int a3, .int a2, .int r67, .ref c]) (pc' := 82) kX0_mendPointers_77 rfl trivial rfl ?_
          refine Gx_callV (As := [.int r67, .int a2, .int a3]) (by decide +kernel) ml_0_64 okX0_asks mvX0_asks rfl (by decide) (Nat.le_of_ble_eq_true rfl) (xChk_0 h_c) rfl rfl (tX0_asks h_c h) (fun rr M82 qq => ?_)
          obtain ⟨r82, rfl, h⟩ := qq
          show Gx l E mX0_mendPointers _ 85 M82 [some (.ref c), some (.int a1), some (.int a2), some (.int a3), some (.int (((3 : Int32) * a2) + a3)), some (.int r67)] [.int r82]
          refine Gx_if_eq (off := 39) (tgt := 124) (by decide +kernel) (by decide) (fun z => ?_) (fun z => ?_)
          · have h := h.1 z
            refine Gx_mask [true, true, true, true, false, false] (L' := [some (.ref c), some (.int a1), some (.int a2), some (.int a3), none, none]) rfl ?_
            exact tX0_mendPointers_124 h_c  hk43 hk51 M82 a1 a2 a3 h
          · have h := h.2 z
            refine Gx_run (es := eX0_mendPointers_88) (P := [xkd c = 0, xkd (c + 1) = 2]) (M' := M82) (L' := [some (.ref c), some (.int a1), some (.int a2), some (.int a3), some (.int (((3 : Int32) * a2) + a3)), some (.int r67)]) (st' := [.int (4 : Int32), .int r67, .int (((3 : Int32) * a2) + a3), .ref (c + 5)]) (pc' := 100) kX0_mendPointers_88 rfl ⟨(xChk_0 h_c), (xChk_1 h_c), trivial⟩ rfl ?_
            refine Gx_icmp_ne (off := 21) (tgt := 121) (by decide +kernel) (by decide) (fun z => ?_) (fun z => ?_)
            · have h := h.1 z
              refine Gx_run (es := eX0_mendPointers_121) (P := []) (M' := M82) (L' := [some (.ref c), some (.int a1), some (.int a2), some (.int a3), some (.int (((3 : Int32) * a2) + a3)), some (.int r67)]) (st' := [.int (-9 : Int32), .int (((3 : Int32) * a2) + a3), .ref (c + 5)]) (pc' := 123) kX0_mendPointers_121 rfl trivial rfl ?_
              refine Gx_mask [true, true, true, true, false, false] (L' := [some (.ref c), some (.int a1), some (.int a2), some (.int a3), none, none]) rfl ?_
              exact tX0_mendPointers_123 h_c  hk43 hk51 M82 a1 a2 a3 (-9 : Int32) (((3 : Int32) * a2) + a3) h
            · have h := h.2 z
              obtain ⟨g103_0, h⟩ := h
              refine Gx_run (es := eX0_mendPointers_103) (P := [xkd c = 0, xkd (c + 1) = 2, xkd (c + 5) = 5, vp_in (((3 : Int32) * a2) + a3) (xln (c + 5))]) (M' := M82) (L' := [some (.ref c), some (.int a1), some (.int a2), some (.int a3), some (.int (((3 : Int32) * a2) + a3)), some (.int r67)]) (st' := [.int (M82 (c + 5) (((3 : Int32) * a2) + a3).toNatClampNeg), .int a2, .ref c, .int (((3 : Int32) * a2) + a3), .ref (c + 5)]) (pc' := 115) kX0_mendPointers_103 rfl ⟨(xChk_0 h_c), (xChk_1 h_c), (xChk_5 h_c), (by rw [xChk_l5 h_c]; exact g103_0), trivial⟩ rfl ?_
              refine Gx_callV (As := [.int a2, .int (M82 (c + 5) (((3 : Int32) * a2) + a3).toNatClampNeg)]) (by decide +kernel) ml_0_82 okX0_cloneFor mvX0_cloneFor rfl (by decide) (Nat.le_of_ble_eq_true rfl) (xChk_0 h_c) rfl rfl (tX0_cloneFor h_c h) (fun rr M115 qq => ?_)
              obtain ⟨r115, rfl, h⟩ := qq
              show Gx l E mX0_mendPointers _ 118 M115 [some (.ref c), some (.int a1), some (.int a2), some (.int a3), some (.int (((3 : Int32) * a2) + a3)), some (.int r67)] [.int r115, .int (((3 : Int32) * a2) + a3), .ref (c + 5)]
              refine Gx_goto (off := 5) (tgt := 123) (by decide +kernel) (by decide) ?_
              refine Gx_mask [true, true, true, true, false, false] (L' := [some (.ref c), some (.int a1), some (.int a2), some (.int a3), none, none]) rfl ?_
              exact tX0_mendPointers_123 h_c  hk43 hk51 M115 a1 a2 a3 r115 (((3 : Int32) * a2) + a3) h
def lX0_mendPointers_43 (c : Nat) (Q : xM → Prop) : Nat → xM → Int32 → Int32 → Prop
  | 0 => fun _ _ _ => False
  | n + 1 => let k43 := lX0_mendPointers_43 c Q n; fun M a1 a2 =>
    ((((10 : Int32) ≤ a2) → (Q M)) ∧ ((¬ (10 : Int32) ≤ a2) → ((∃ n : Nat, lX0_mendPointers_51 c Q k43 n M a1 a2 (0 : Int32)))))
set_option maxHeartbeats 4000000 in
set_option maxRecDepth 100000 in
theorem tX0_mendPointers_43 {l : Launch} {E : xE} {c : Nat} {Q : xM → Prop} (h_c : xChk c) (n : Nat) : ∀ (M : xM) (a1 : Int32) (a2 : Int32), lX0_mendPointers_43 c Q n M a1 a2 → Gx l E mX0_mendPointers (xRv Q) 43 M [some (.ref c), some (.int a1), some (.int a2), none, none, none] [] := by
  induction n with
  | zero => intro M a1 a2 h; exact h.elim
  | succ n hk43 =>
      intro M a1 a2 h
      unfold lX0_mendPointers_43 at h
      dsimp only at h
      refine Gx_run (es := eX0_mendPointers_43) (P := []) (M' := M) (L' := [some (.ref c), some (.int a1), some (.int a2), none, none, none]) (st' := [.int (10 : Int32), .int a2]) (pc' := 46) kX0_mendPointers_43 rfl trivial rfl ?_
      refine Gx_icmp_ge (off := 102) (tgt := 148) (by decide +kernel) (by decide) (fun z => ?_) (fun z => ?_)
      · have h := h.1 z
        exact Gx_vret (by decide +kernel) rfl ⟨rfl, h⟩
      · have h := h.2 z
        refine Gx_run (es := eX0_mendPointers_49) (P := []) (M' := M) (L' := [some (.ref c), some (.int a1), some (.int a2), some (.int (0 : Int32)), none, none]) (st' := []) (pc' := 51) kX0_mendPointers_49 rfl trivial rfl ?_
        refine Gx_mask [true, true, true, true, false, false] (L' := [some (.ref c), some (.int a1), some (.int a2), some (.int (0 : Int32)), none, none]) rfl ?_
        obtain ⟨n, h⟩ := h
        exact tX0_mendPointers_51 h_c  hk43 n M a1 a2 (0 : Int32) h
def wX0_mendPointers_39 (c : Nat) (Q : xM → Prop) (M : xM) : Prop :=
    (∃ n : Nat, lX0_mendPointers_43 c Q n M (0 : Int32) (0 : Int32))
set_option maxHeartbeats 4000000 in
set_option maxRecDepth 100000 in
theorem tX0_mendPointers_39 {l : Launch} {E : xE} {c : Nat} {Q : xM → Prop} (h_c : xChk c) (M : xM) (h : wX0_mendPointers_39 c Q M ) : Gx l E mX0_mendPointers (xRv Q) 39 M [some (.ref c), none, none, none, none, none] [] := by
  unfold wX0_mendPointers_39 at h
  refine Gx_run (es := eX0_mendPointers_39) (P := []) (M' := M) (L' := [some (.ref c), some (.int (0 : Int32)), some (.int (0 : Int32)), none, none, none]) (st' := []) (pc' := 43) kX0_mendPointers_39 rfl trivial rfl ?_
  refine Gx_mask [true, true, true, false, false, false] (L' := [some (.ref c), some (.int (0 : Int32)), some (.int (0 : Int32)), none, none, none]) rfl ?_
  obtain ⟨n, h⟩ := h
  exact tX0_mendPointers_43 h_c  n M (0 : Int32) (0 : Int32) h
def wX0_mendPointers (M : xM) (c : Nat) (Q : xM → Prop) : Prop :=
    wX2_isDirectory M (c + 1) (0 : Int32) (fun r5 M5 => (((¬ r5 = 0) → (wX0_mendPointers_39 c Q M5)) ∧ ((r5 = 0) → (wX0_asks M5 c (1 : Int32) (0 : Int32) (0 : Int32) (fun r15 M15 => (((r15 = 0) → (wX0_mendPointers_39 c Q M15)) ∧ ((¬ r15 = 0) → (wX2_wipe M15 (c + 1) (0 : Int32) (fun M26 => (vp_in (0 : Int32) 10) ∧ wX0_mendPointers_39 c Q (xup M26 (c + 2) (0 : Int32).toNatClampNeg (2 : Int32)))))))))))
set_option maxHeartbeats 4000000 in
set_option maxRecDepth 100000 in
theorem tX0_mendPointers {l : Launch} {E : xE} {M : xM} {c : Nat} {Q : xM → Prop} (h_c : xChk c) (h : wX0_mendPointers M c Q) : Ct l E mX0_mendPointers [.ref c] M (xRv Q) := by
  refine Ct_of (by decide +kernel) rfl (Nat.le_of_ble_eq_true rfl) ?_
  unfold wX0_mendPointers at h
  show Gx l E mX0_mendPointers (xRv Q) 0 M [some (.ref c), none, none, none, none, none] []
  refine Gx_run (es := eX0_mendPointers_0) (P := [xkd c = 0]) (M' := M) (L' := [some (.ref c), none, none, none, none, none]) (st' := [.int (0 : Int32), .ref (c + 1)]) (pc' := 5) kX0_mendPointers_0 rfl ⟨(xChk_0 h_c), trivial⟩ rfl ?_
  refine Gx_callV (As := [.int (0 : Int32)]) (by decide +kernel) ml_0_60 okX2_isDirectory mvX2_isDirectory rfl (by decide) (Nat.le_of_ble_eq_true rfl) (xChk_1 h_c) rfl rfl (tX2_isDirectory (xChk_v h_c) h) (fun rr M5 qq => ?_)
  obtain ⟨r5, rfl, h⟩ := qq
  show Gx l E mX0_mendPointers _ 8 M5 [some (.ref c), none, none, none, none, none] [.int r5]
  refine Gx_if_ne (off := 31) (tgt := 39) (by decide +kernel) (by decide) (fun z => ?_) (fun z => ?_)
  · have h := h.1 z
    refine Gx_mask [true, false, false, false, false, false] (L' := [some (.ref c), none, none, none, none, none]) rfl ?_
    exact tX0_mendPointers_39 h_c  M5 h
  · have h := h.2 z
    refine Gx_run (es := eX0_mendPointers_11) (P := []) (M' := M5) (L' := [some (.ref c), none, none, none, none, none]) (st' := [.int (0 : Int32), .int (0 : Int32), .int (1 : Int32), .ref c]) (pc' := 15) kX0_mendPointers_11 rfl trivial rfl ?_
    refine Gx_callV (As := [.int (1 : Int32), .int (0 : Int32), .int (0 : Int32)]) (by decide +kernel) ml_0_64 okX0_asks mvX0_asks rfl (by decide) (Nat.le_of_ble_eq_true rfl) (xChk_0 h_c) rfl rfl (tX0_asks h_c h) (fun rr M15 qq => ?_)
    obtain ⟨r15, rfl, h⟩ := qq
    show Gx l E mX0_mendPointers _ 18 M15 [some (.ref c), none, none, none, none, none] [.int r15]
    refine Gx_if_eq (off := 21) (tgt := 39) (by decide +kernel) (by decide) (fun z => ?_) (fun z => ?_)
    · have h := h.1 z
      refine Gx_mask [true, false, false, false, false, false] (L' := [some (.ref c), none, none, none, none, none]) rfl ?_
      exact tX0_mendPointers_39 h_c  M15 h
    · have h := h.2 z
      refine Gx_run (es := eX0_mendPointers_21) (P := [xkd c = 0]) (M' := M15) (L' := [some (.ref c), none, none, none, none, none]) (st' := [.int (0 : Int32), .ref (c + 1)]) (pc' := 26) kX0_mendPointers_21 rfl ⟨(xChk_0 h_c), trivial⟩ rfl ?_
      refine Gx_callV (As := [.int (0 : Int32)]) (by decide +kernel) ml_0_68 okX2_wipe mvX2_wipe rfl (by decide) (Nat.le_of_ble_eq_true rfl) (xChk_1 h_c) rfl rfl (tX2_wipe (xChk_v h_c) h) (fun rr M26 qq => ?_)
      obtain ⟨rfl, h⟩ := qq
      show Gx l E mX0_mendPointers _ 29 M26 [some (.ref c), none, none, none, none, none] []
      obtain ⟨g29_0, h⟩ := h
      refine Gx_run (es := eX0_mendPointers_29) (P := [xkd c = 0, xkd (c + 1) = 2, xkd (c + 2) = 5, vp_in (0 : Int32) (xln (c + 2))]) (M' := (xup M26 (c + 2) (0 : Int32).toNatClampNeg (2 : Int32))) (L' := [some (.ref c), none, none, none, none, none]) (st' := []) (pc' := 39) kX0_mendPointers_29 rfl ⟨(xChk_0 h_c), (xChk_1 h_c), (xChk_2 h_c), (by rw [xChk_l2 h_c]; exact g29_0), trivial⟩ rfl ?_
      refine Gx_mask [true, false, false, false, false, false] (L' := [some (.ref c), none, none, none, none, none]) rfl ?_
      exact tX0_mendPointers_39 h_c  (xup M26 (c + 2) (0 : Int32).toNatClampNeg (2 : Int32)) h
def eX1_stands_0 : List xI := [(.aload_n 0, 1, 0, 0, 0), (.iload_n 1, 1, 0, 0, 0)]
theorem kX1_stands_0 : xcode (xmb mX1_stands) (xmo mX1_stands) 0 eX1_stands_0 = true := by decide +kernel
def eX1_stands_91 : List xI := [(.aload_n 0, 1, 0, 0, 0), (.iload_n 1, 1, 0, 0, 0), (.iconst 1, 1, 0, 0, (1)), (.iadd, 1, 0, 0, 0)]
theorem kX1_stands_91 : xcode (xmb mX1_stands) (xmo mX1_stands) 91 eX1_stands_91 = true := by decide +kernel
def eX1_stands_98 : List xI := [(.bipush 24, 2, 0, 0, (24))]
theorem kX1_stands_98 : xcode (xmb mX1_stands) (xmo mX1_stands) 98 eX1_stands_98 = true := by decide +kernel
def eX1_stands_107 : List xI := [(.iconst 0, 1, 0, 0, (0))]
theorem kX1_stands_107 : xcode (xmb mX1_stands) (xmo mX1_stands) 107 eX1_stands_107 = true := by decide +kernel
def eX1_stands_103 : List xI := [(.iconst 1, 1, 0, 0, (1))]
theorem kX1_stands_103 : xcode (xmb mX1_stands) (xmo mX1_stands) 103 eX1_stands_103 = true := by decide +kernel
def eX1_stands_73 : List xI := [(.aload_n 0, 1, 0, 0, 0), (.iload_n 1, 1, 0, 0, 0), (.iconst 2, 1, 0, 0, (2)), (.iadd, 1, 0, 0, 0)]
theorem kX1_stands_73 : xcode (xmb mX1_stands) (xmo mX1_stands) 73 eX1_stands_73 = true := by decide +kernel
def eX1_stands_80 : List xI := [(.bipush 6, 2, 0, 0, (6))]
theorem kX1_stands_80 : xcode (xmb mX1_stands) (xmo mX1_stands) 80 eX1_stands_80 = true := by decide +kernel
def eX1_stands_89 : List xI := [(.iconst 0, 1, 0, 0, (0))]
theorem kX1_stands_89 : xcode (xmb mX1_stands) (xmo mX1_stands) 89 eX1_stands_89 = true := by decide +kernel
def eX1_stands_85 : List xI := [(.iconst 1, 1, 0, 0, (1))]
theorem kX1_stands_85 : xcode (xmb mX1_stands) (xmo mX1_stands) 85 eX1_stands_85 = true := by decide +kernel
def eX1_stands_56 : List xI := [(.aload_n 0, 1, 0, 0, 0), (.iload_n 1, 1, 0, 0, 0), (.iconst 2, 1, 0, 0, (2)), (.iadd, 1, 0, 0, 0)]
theorem kX1_stands_56 : xcode (xmb mX1_stands) (xmo mX1_stands) 56 eX1_stands_56 = true := by decide +kernel
def eX1_stands_63 : List xI := [(.iconst 3, 1, 0, 0, (3))]
theorem kX1_stands_63 : xcode (xmb mX1_stands) (xmo mX1_stands) 63 eX1_stands_63 = true := by decide +kernel
def eX1_stands_71 : List xI := [(.iconst 0, 1, 0, 0, (0))]
theorem kX1_stands_71 : xcode (xmb mX1_stands) (xmo mX1_stands) 71 eX1_stands_71 = true := by decide +kernel
def eX1_stands_67 : List xI := [(.iconst 1, 1, 0, 0, (1))]
theorem kX1_stands_67 : xcode (xmb mX1_stands) (xmo mX1_stands) 67 eX1_stands_67 = true := by decide +kernel
def eX1_stands_109 : List xI := [(.iconst 1, 1, 0, 0, (1))]
theorem kX1_stands_109 : xcode (xmb mX1_stands) (xmo mX1_stands) 109 eX1_stands_109 = true := by decide +kernel
def wX1_stands_108 (p1 : Int32) (Q : Int32 → xM → Prop) (M : xM) (s0 : Int32) : Prop :=
    (s0 &&& 1 = s0) ∧ Q s0 M
set_option maxHeartbeats 4000000 in
set_option maxRecDepth 100000 in
theorem tX1_stands_108 {l : Launch} {E : xE} {p1 : Int32} {Q : Int32 → xM → Prop} (M : xM) (s0 : Int32) (h : wX1_stands_108 p1 Q M s0) : Gx l E mX1_stands (xRi Q) 108 M [none, none] [.int s0] := by
  unfold wX1_stands_108 at h
  exact Gx_iret (by decide +kernel) rfl (congrArg Value.int h.1) ⟨_, rfl, h.2⟩
def wX1_stands_91 (p1 : Int32) (Q : Int32 → xM → Prop) (M : xM) : Prop :=
    wX1_pairAt M (p1 + (1 : Int32)) (fun r95 M95 => ((((24 : Int32) ≤ r95) → (wX1_stands_108 p1 Q M95 (0 : Int32))) ∧ ((¬ (24 : Int32) ≤ r95) → (wX1_stands_108 p1 Q M95 (1 : Int32)))))
set_option maxHeartbeats 4000000 in
set_option maxRecDepth 100000 in
theorem tX1_stands_91 {l : Launch} {E : xE} {p1 : Int32} {Q : Int32 → xM → Prop} (M : xM) (h : wX1_stands_91 p1 Q M ) : Gx l E mX1_stands (xRi Q) 91 M [some (.ref 46), some (.int p1)] [] := by
  unfold wX1_stands_91 at h
  refine Gx_run (es := eX1_stands_91) (P := []) (M' := M) (L' := [some (.ref 46), some (.int p1)]) (st' := [.int (p1 + (1 : Int32)), .ref 46]) (pc' := 95) kX1_stands_91 rfl trivial rfl ?_
  refine Gx_callV (As := [.int (p1 + (1 : Int32))]) (by decide +kernel) ml_1_67 okX1_pairAt mvX1_pairAt rfl (by decide) (Nat.le_of_ble_eq_true rfl) rfl rfl rfl (tX1_pairAt h) (fun rr M95 qq => ?_)
  obtain ⟨r95, rfl, h⟩ := qq
  show Gx l E mX1_stands _ 98 M95 [some (.ref 46), some (.int p1)] [.int r95]
  refine Gx_run (es := eX1_stands_98) (P := []) (M' := M95) (L' := [some (.ref 46), some (.int p1)]) (st' := [.int (24 : Int32), .int r95]) (pc' := 100) kX1_stands_98 rfl trivial rfl ?_
  refine Gx_icmp_ge (off := 7) (tgt := 107) (by decide +kernel) (by decide) (fun z => ?_) (fun z => ?_)
  · have h := h.1 z
    refine Gx_run (es := eX1_stands_107) (P := []) (M' := M95) (L' := [some (.ref 46), some (.int p1)]) (st' := [.int (0 : Int32)]) (pc' := 108) kX1_stands_107 rfl trivial rfl ?_
    refine Gx_mask [false, false] (L' := [none, none]) rfl ?_
    exact tX1_stands_108  M95 (0 : Int32) h
  · have h := h.2 z
    refine Gx_run (es := eX1_stands_103) (P := []) (M' := M95) (L' := [some (.ref 46), some (.int p1)]) (st' := [.int (1 : Int32)]) (pc' := 104) kX1_stands_103 rfl trivial rfl ?_
    refine Gx_goto (off := 4) (tgt := 108) (by decide +kernel) (by decide) ?_
    refine Gx_mask [false, false] (L' := [none, none]) rfl ?_
    exact tX1_stands_108  M95 (1 : Int32) h
def wX1_stands_90 (p1 : Int32) (Q : Int32 → xM → Prop) (M : xM) (s0 : Int32) : Prop :=
    (s0 &&& 1 = s0) ∧ Q s0 M
set_option maxHeartbeats 4000000 in
set_option maxRecDepth 100000 in
theorem tX1_stands_90 {l : Launch} {E : xE} {p1 : Int32} {Q : Int32 → xM → Prop} (M : xM) (s0 : Int32) (h : wX1_stands_90 p1 Q M s0) : Gx l E mX1_stands (xRi Q) 90 M [none, none] [.int s0] := by
  unfold wX1_stands_90 at h
  exact Gx_iret (by decide +kernel) rfl (congrArg Value.int h.1) ⟨_, rfl, h.2⟩
def wX1_stands_73 (p1 : Int32) (Q : Int32 → xM → Prop) (M : xM) : Prop :=
    wX1_digitAt M (p1 + (2 : Int32)) (fun r77 M77 => ((((6 : Int32) ≤ r77) → (wX1_stands_90 p1 Q M77 (0 : Int32))) ∧ ((¬ (6 : Int32) ≤ r77) → (wX1_stands_90 p1 Q M77 (1 : Int32)))))
set_option maxHeartbeats 4000000 in
set_option maxRecDepth 100000 in
theorem tX1_stands_73 {l : Launch} {E : xE} {p1 : Int32} {Q : Int32 → xM → Prop} (M : xM) (h : wX1_stands_73 p1 Q M ) : Gx l E mX1_stands (xRi Q) 73 M [some (.ref 46), some (.int p1)] [] := by
  unfold wX1_stands_73 at h
  refine Gx_run (es := eX1_stands_73) (P := []) (M' := M) (L' := [some (.ref 46), some (.int p1)]) (st' := [.int (p1 + (2 : Int32)), .ref 46]) (pc' := 77) kX1_stands_73 rfl trivial rfl ?_
  refine Gx_callV (As := [.int (p1 + (2 : Int32))]) (by decide +kernel) ml_1_23 okX1_digitAt mvX1_digitAt rfl (by decide) (Nat.le_of_ble_eq_true rfl) rfl rfl rfl (tX1_digitAt h) (fun rr M77 qq => ?_)
  obtain ⟨r77, rfl, h⟩ := qq
  show Gx l E mX1_stands _ 80 M77 [some (.ref 46), some (.int p1)] [.int r77]
  refine Gx_run (es := eX1_stands_80) (P := []) (M' := M77) (L' := [some (.ref 46), some (.int p1)]) (st' := [.int (6 : Int32), .int r77]) (pc' := 82) kX1_stands_80 rfl trivial rfl ?_
  refine Gx_icmp_ge (off := 7) (tgt := 89) (by decide +kernel) (by decide) (fun z => ?_) (fun z => ?_)
  · have h := h.1 z
    refine Gx_run (es := eX1_stands_89) (P := []) (M' := M77) (L' := [some (.ref 46), some (.int p1)]) (st' := [.int (0 : Int32)]) (pc' := 90) kX1_stands_89 rfl trivial rfl ?_
    refine Gx_mask [false, false] (L' := [none, none]) rfl ?_
    exact tX1_stands_90  M77 (0 : Int32) h
  · have h := h.2 z
    refine Gx_run (es := eX1_stands_85) (P := []) (M' := M77) (L' := [some (.ref 46), some (.int p1)]) (st' := [.int (1 : Int32)]) (pc' := 86) kX1_stands_85 rfl trivial rfl ?_
    refine Gx_goto (off := 4) (tgt := 90) (by decide +kernel) (by decide) ?_
    refine Gx_mask [false, false] (L' := [none, none]) rfl ?_
    exact tX1_stands_90  M77 (1 : Int32) h
def wX1_stands_72 (p1 : Int32) (Q : Int32 → xM → Prop) (M : xM) (s0 : Int32) : Prop :=
    (s0 &&& 1 = s0) ∧ Q s0 M
set_option maxHeartbeats 4000000 in
set_option maxRecDepth 100000 in
theorem tX1_stands_72 {l : Launch} {E : xE} {p1 : Int32} {Q : Int32 → xM → Prop} (M : xM) (s0 : Int32) (h : wX1_stands_72 p1 Q M s0) : Gx l E mX1_stands (xRi Q) 72 M [none, none] [.int s0] := by
  unfold wX1_stands_72 at h
  exact Gx_iret (by decide +kernel) rfl (congrArg Value.int h.1) ⟨_, rfl, h.2⟩
def wX1_stands (M : xM) (p1 : Int32) (Q : Int32 → xM → Prop) : Prop :=
    wX1_signAt M p1 (fun r2 M2 => (((r2 = (98 : Int32)) → (wX1_stands_91 p1 Q M2)) ∧ ((¬ r2 = (98 : Int32)) → (((r2 = (101 : Int32)) → (wX1_stands_73 p1 Q M2)) ∧ ((¬ r2 = (101 : Int32)) → (((r2 = (109 : Int32)) → (wX1_stands_91 p1 Q M2)) ∧ ((¬ r2 = (109 : Int32)) → (((r2 = (112 : Int32)) → (wX1_digitAt M2 (p1 + (2 : Int32)) (fun r60 M60 => ((((3 : Int32) ≤ r60) → (wX1_stands_72 p1 Q M60 (0 : Int32))) ∧ ((¬ (3 : Int32) ≤ r60) → (wX1_stands_72 p1 Q M60 (1 : Int32))))))) ∧ ((¬ r2 = (112 : Int32)) → (((r2 = (120 : Int32)) → (wX1_stands_73 p1 Q M2)) ∧ ((¬ r2 = (120 : Int32)) → (Q (1 : Int32) M2))))))))))))
set_option maxHeartbeats 4000000 in
set_option maxRecDepth 100000 in
theorem tX1_stands {l : Launch} {E : xE} {M : xM} {p1 : Int32} {Q : Int32 → xM → Prop} (h : wX1_stands M p1 Q) : Ct l E mX1_stands [.ref 46, .int p1] M (xRi Q) := by
  refine Ct_of (by decide +kernel) rfl (Nat.le_of_ble_eq_true rfl) ?_
  unfold wX1_stands at h
  show Gx l E mX1_stands (xRi Q) 0 M [some (.ref 46), some (.int p1)] []
  refine Gx_run (es := eX1_stands_0) (P := []) (M' := M) (L' := [some (.ref 46), some (.int p1)]) (st' := [.int p1, .ref 46]) (pc' := 2) kX1_stands_0 rfl trivial rfl ?_
  refine Gx_callV (As := [.int p1]) (by decide +kernel) ml_1_19 okX1_signAt mvX1_signAt rfl (by decide) (Nat.le_of_ble_eq_true rfl) rfl rfl rfl (tX1_signAt h) (fun rr M2 qq => ?_)
  obtain ⟨r2, rfl, h⟩ := qq
  show Gx l E mX1_stands _ 5 M2 [some (.ref 46), some (.int p1)] [.int r2]
  by_cases z98 : r2 = (98 : Int32)
  · have h := h.1 z98
    refine Gx_lookAt (dflt := 104) (ps := #[(98, 86), (101, 68), (109, 86), (112, 51), (120, 68)]) (len := 51) z98 (by decide +kernel) (by decide) (off := 86) (tgt := 91) rfl (by decide) ?_
    refine Gx_mask [true, true] (L' := [some (.ref 46), some (.int p1)]) rfl ?_
    exact tX1_stands_91  M2 h
  replace h := h.2 z98
  by_cases z101 : r2 = (101 : Int32)
  · have h := h.1 z101
    refine Gx_lookAt (dflt := 104) (ps := #[(98, 86), (101, 68), (109, 86), (112, 51), (120, 68)]) (len := 51) z101 (by decide +kernel) (by decide) (off := 68) (tgt := 73) rfl (by decide) ?_
    refine Gx_mask [true, true] (L' := [some (.ref 46), some (.int p1)]) rfl ?_
    exact tX1_stands_73  M2 h
  replace h := h.2 z101
  by_cases z109 : r2 = (109 : Int32)
  · have h := h.1 z109
    refine Gx_lookAt (dflt := 104) (ps := #[(98, 86), (101, 68), (109, 86), (112, 51), (120, 68)]) (len := 51) z109 (by decide +kernel) (by decide) (off := 86) (tgt := 91) rfl (by decide) ?_
    refine Gx_mask [true, true] (L' := [some (.ref 46), some (.int p1)]) rfl ?_
    exact tX1_stands_91  M2 h
  replace h := h.2 z109
  by_cases z112 : r2 = (112 : Int32)
  · have h := h.1 z112
    refine Gx_lookAt (dflt := 104) (ps := #[(98, 86), (101, 68), (109, 86), (112, 51), (120, 68)]) (len := 51) z112 (by decide +kernel) (by decide) (off := 51) (tgt := 56) rfl (by decide) ?_
    refine Gx_run (es := eX1_stands_56) (P := []) (M' := M2) (L' := [some (.ref 46), some (.int p1)]) (st' := [.int (p1 + (2 : Int32)), .ref 46]) (pc' := 60) kX1_stands_56 rfl trivial rfl ?_
    refine Gx_callV (As := [.int (p1 + (2 : Int32))]) (by decide +kernel) ml_1_23 okX1_digitAt mvX1_digitAt rfl (by decide) (Nat.le_of_ble_eq_true rfl) rfl rfl rfl (tX1_digitAt h) (fun rr M60 qq => ?_)
    obtain ⟨r60, rfl, h⟩ := qq
    show Gx l E mX1_stands _ 63 M60 [some (.ref 46), some (.int p1)] [.int r60]
    refine Gx_run (es := eX1_stands_63) (P := []) (M' := M60) (L' := [some (.ref 46), some (.int p1)]) (st' := [.int (3 : Int32), .int r60]) (pc' := 64) kX1_stands_63 rfl trivial rfl ?_
    refine Gx_icmp_ge (off := 7) (tgt := 71) (by decide +kernel) (by decide) (fun z => ?_) (fun z => ?_)
    · have h := h.1 z
      refine Gx_run (es := eX1_stands_71) (P := []) (M' := M60) (L' := [some (.ref 46), some (.int p1)]) (st' := [.int (0 : Int32)]) (pc' := 72) kX1_stands_71 rfl trivial rfl ?_
      refine Gx_mask [false, false] (L' := [none, none]) rfl ?_
      exact tX1_stands_72  M60 (0 : Int32) h
    · have h := h.2 z
      refine Gx_run (es := eX1_stands_67) (P := []) (M' := M60) (L' := [some (.ref 46), some (.int p1)]) (st' := [.int (1 : Int32)]) (pc' := 68) kX1_stands_67 rfl trivial rfl ?_
      refine Gx_goto (off := 4) (tgt := 72) (by decide +kernel) (by decide) ?_
      refine Gx_mask [false, false] (L' := [none, none]) rfl ?_
      exact tX1_stands_72  M60 (1 : Int32) h
  replace h := h.2 z112
  by_cases z120 : r2 = (120 : Int32)
  · have h := h.1 z120
    refine Gx_lookAt (dflt := 104) (ps := #[(98, 86), (101, 68), (109, 86), (112, 51), (120, 68)]) (len := 51) z120 (by decide +kernel) (by decide) (off := 68) (tgt := 73) rfl (by decide) ?_
    refine Gx_mask [true, true] (L' := [some (.ref 46), some (.int p1)]) rfl ?_
    exact tX1_stands_73  M2 h
  replace h := h.2 z120
  refine Gx_lookup (dflt := 104) (ps := #[(98, 86), (101, 68), (109, 86), (112, 51), (120, 68)]) (len := 51) (by decide +kernel) (by decide) (off := 104) (tgt := 109) ?_ (by decide) ?_
  · show Op.lookupswitch.offset [(98, 86), (101, 68), (109, 86), (112, 51), (120, 68)] 104 _ = _
    rw [lv_osw z98 (by decide), lv_osw z101 (by decide), lv_osw z109 (by decide), lv_osw z112 (by decide), lv_osw z120 (by decide)]
    rfl
  refine Gx_run (es := eX1_stands_109) (P := []) (M' := M2) (L' := [some (.ref 46), some (.int p1)]) (st' := [.int (1 : Int32)]) (pc' := 110) kX1_stands_109 rfl trivial rfl ?_
  exact Gx_iret (by decide +kernel) rfl (by decide) ⟨_, rfl, h⟩
def eX2_blocksBelow_0 : List xI := [(.aload_n 0, 1, 0, 0, 0), (.iload_n 1, 1, 0, 0, 0)]
theorem kX2_blocksBelow_0 : xcode (xmb mX2_blocksBelow) (xmo mX2_blocksBelow) 0 eX2_blocksBelow_0 = true := by decide +kernel
def eX2_blocksBelow_16 : List xI := [(.iconst 1, 1, 0, 0, (1)), (.iload_n 1, 1, 0, 0, 0), (.ishl, 1, 0, 0, 0)]
theorem kX2_blocksBelow_16 : xcode (xmb mX2_blocksBelow) (xmo mX2_blocksBelow) 16 eX2_blocksBelow_16 = true := by decide +kernel
def eX2_blocksBelow_19 : List xI := [(.istore_n 2, 1, 0, 0, 0), (.iconst 0, 1, 0, 0, (0)), (.istore_n 3, 1, 0, 0, 0), (.iconst 0, 1, 0, 0, (0)), (.istore 4, 2, 0, 0, 0)]
theorem kX2_blocksBelow_19 : xcode (xmb mX2_blocksBelow) (xmo mX2_blocksBelow) 19 eX2_blocksBelow_19 = true := by decide +kernel
def eX2_blocksBelow_25 : List xI := [(.iload 4, 2, 0, 0, 0), (.bipush 10, 2, 0, 0, (10))]
theorem kX2_blocksBelow_25 : xcode (xmb mX2_blocksBelow) (xmo mX2_blocksBelow) 25 eX2_blocksBelow_25 = true := by decide +kernel
def eX2_blocksBelow_60 : List xI := [(.iload_n 3, 1, 0, 0, 0)]
theorem kX2_blocksBelow_60 : xcode (xmb mX2_blocksBelow) (xmo mX2_blocksBelow) 60 eX2_blocksBelow_60 = true := by decide +kernel
def eX2_blocksBelow_32 : List xI := [(.iload_n 3, 1, 0, 0, 0), (.iload_n 2, 1, 0, 0, 0), (.iload 4, 2, 0, 0, 0), (.ishr, 1, 0, 0, 0), (.iconst 1, 1, 0, 0, (1)), (.iand, 1, 0, 0, 0)]
theorem kX2_blocksBelow_32 : xcode (xmb mX2_blocksBelow) (xmo mX2_blocksBelow) 32 eX2_blocksBelow_32 = true := by decide +kernel
def eX2_blocksBelow_51 : List xI := [(.iconst 0, 1, 0, 0, (0))]
theorem kX2_blocksBelow_51 : xcode (xmb mX2_blocksBelow) (xmo mX2_blocksBelow) 51 eX2_blocksBelow_51 = true := by decide +kernel
def eX2_blocksBelow_52 : List xI := [(.ior, 1, 0, 0, 0), (.istore_n 3, 1, 0, 0, 0), (.iinc 4 1, 3, 0, 0, (1))]
theorem kX2_blocksBelow_52 : xcode (xmb mX2_blocksBelow) (xmo mX2_blocksBelow) 52 eX2_blocksBelow_52 = true := by decide +kernel
def eX2_blocksBelow_42 : List xI := [(.aload_n 0, 1, 0, 0, 0), (.iload 4, 2, 0, 0, 0)]
theorem kX2_blocksBelow_42 : xcode (xmb mX2_blocksBelow) (xmo mX2_blocksBelow) 42 eX2_blocksBelow_42 = true := by decide +kernel
def eX2_blocksBelow_8 : List xI := [(.aload_n 0, 1, 0, 0, 0), (.iload_n 1, 1, 0, 0, 0)]
theorem kX2_blocksBelow_8 : xcode (xmb mX2_blocksBelow) (xmo mX2_blocksBelow) 8 eX2_blocksBelow_8 = true := by decide +kernel
def wX2_blocksBelow_52 (v : Nat) (p1 : Int32) (Q : Int32 → xM → Prop) (k25 : xM → Int32 → Int32 → Int32 → Prop) (M : xM) (a2 : Int32) (a4 : Int32) (s0 : Int32) (s1 : Int32) : Prop :=
    k25 M a2 (s1 ||| s0) (a4 + (1 : Int32))
set_option maxHeartbeats 4000000 in
set_option maxRecDepth 100000 in
theorem tX2_blocksBelow_52 {l : Launch} {E : xE} {v : Nat} {p1 : Int32} {Q : Int32 → xM → Prop} {k25 : xM → Int32 → Int32 → Int32 → Prop} (h_v : xVol v) (hk25 : ∀ (M : xM) (a2 : Int32) (a3 : Int32) (a4 : Int32), k25 M a2 a3 a4 → Gx l E mX2_blocksBelow (xRi Q) 25 M [some (.ref v), none, some (.int a2), some (.int a3), some (.int a4)] []) (M : xM) (a2 : Int32) (a4 : Int32) (s0 : Int32) (s1 : Int32) (h : wX2_blocksBelow_52 v p1 Q k25 M a2 a4 s0 s1) : Gx l E mX2_blocksBelow (xRi Q) 52 M [some (.ref v), none, some (.int a2), none, some (.int a4)] [.int s0, .int s1] := by
  unfold wX2_blocksBelow_52 at h
  refine Gx_run (es := eX2_blocksBelow_52) (P := []) (M' := M) (L' := [some (.ref v), none, some (.int a2), some (.int (s1 ||| s0)), some (.int (a4 + (1 : Int32)))]) (st' := []) (pc' := 57) kX2_blocksBelow_52 rfl trivial rfl ?_
  refine Gx_goto (off := -32) (tgt := 25) (by decide +kernel) (by decide) ?_
  refine Gx_mask [true, false, true, true, true] (L' := [some (.ref v), none, some (.int a2), some (.int (s1 ||| s0)), some (.int (a4 + (1 : Int32)))]) rfl ?_
  exact hk25 M a2 (s1 ||| s0) (a4 + (1 : Int32)) h
def lX2_blocksBelow_25 (v : Nat) (p1 : Int32) (Q : Int32 → xM → Prop) : Nat → xM → Int32 → Int32 → Int32 → Prop
  | 0 => fun _ _ _ _ => False
  | n + 1 => let k25 := lX2_blocksBelow_25 v p1 Q n; fun M a2 a3 a4 =>
    ((((10 : Int32) ≤ a4) → (wJ6_bitCount_0f7a4 M a3 (fun r61 M61 => Q r61 M61))) ∧ ((¬ (10 : Int32) ≤ a4) → ((((((a2 >>> (a4 &&& 31)) &&& (1 : Int32)) = 0) → (wX2_blocksBelow_52 v p1 Q k25 M a2 a4 (0 : Int32) a3)) ∧ ((¬ ((a2 >>> (a4 &&& 31)) &&& (1 : Int32)) = 0) → (wX2_blocksOf M v a4 (fun r45 M45 => wX2_blocksBelow_52 v p1 Q k25 M45 a2 a4 r45 a3)))))))
set_option maxHeartbeats 4000000 in
set_option maxRecDepth 100000 in
theorem tX2_blocksBelow_25 {l : Launch} {E : xE} {v : Nat} {p1 : Int32} {Q : Int32 → xM → Prop} (h_v : xVol v) (n : Nat) : ∀ (M : xM) (a2 : Int32) (a3 : Int32) (a4 : Int32), lX2_blocksBelow_25 v p1 Q n M a2 a3 a4 → Gx l E mX2_blocksBelow (xRi Q) 25 M [some (.ref v), none, some (.int a2), some (.int a3), some (.int a4)] [] := by
  induction n with
  | zero => intro M a2 a3 a4 h; exact h.elim
  | succ n hk25 =>
      intro M a2 a3 a4 h
      unfold lX2_blocksBelow_25 at h
      dsimp only at h
      refine Gx_run (es := eX2_blocksBelow_25) (P := []) (M' := M) (L' := [some (.ref v), none, some (.int a2), some (.int a3), some (.int a4)]) (st' := [.int (10 : Int32), .int a4]) (pc' := 29) kX2_blocksBelow_25 rfl trivial rfl ?_
      refine Gx_icmp_ge (off := 31) (tgt := 60) (by decide +kernel) (by decide) (fun z => ?_) (fun z => ?_)
      · have h := h.1 z
        refine Gx_run (es := eX2_blocksBelow_60) (P := []) (M' := M) (L' := [some (.ref v), none, some (.int a2), some (.int a3), some (.int a4)]) (st' := [.int a3]) (pc' := 61) kX2_blocksBelow_60 rfl trivial rfl ?_
        refine Gx_callS (As := [.int a3]) (by decide +kernel) ml_2_83 okJ6_bitCount_0f7a4 mvJ6_bitCount_0f7a4 rfl (by decide) (Nat.le_of_ble_eq_true rfl) (tJ6_bitCount_0f7a4 h) (fun rr M61 qq => ?_)
        obtain ⟨r61, rfl, h⟩ := qq
        show Gx l E mX2_blocksBelow _ 64 M61 [some (.ref v), none, some (.int a2), some (.int a3), some (.int a4)] [.int r61]
        exact Gx_iret (by decide +kernel) rfl rfl ⟨_, rfl, h⟩
      · have h := h.2 z
        refine Gx_run (es := eX2_blocksBelow_32) (P := []) (M' := M) (L' := [some (.ref v), none, some (.int a2), some (.int a3), some (.int a4)]) (st' := [.int ((a2 >>> (a4 &&& 31)) &&& (1 : Int32)), .int a3]) (pc' := 39) kX2_blocksBelow_32 rfl trivial rfl ?_
        refine Gx_if_eq (off := 12) (tgt := 51) (by decide +kernel) (by decide) (fun z => ?_) (fun z => ?_)
        · have h := h.1 z
          refine Gx_run (es := eX2_blocksBelow_51) (P := []) (M' := M) (L' := [some (.ref v), none, some (.int a2), some (.int a3), some (.int a4)]) (st' := [.int (0 : Int32), .int a3]) (pc' := 52) kX2_blocksBelow_51 rfl trivial rfl ?_
          refine Gx_mask [true, false, true, false, true] (L' := [some (.ref v), none, some (.int a2), none, some (.int a4)]) rfl ?_
          exact tX2_blocksBelow_52 h_v  hk25 M a2 a4 (0 : Int32) a3 h
        · have h := h.2 z
          refine Gx_run (es := eX2_blocksBelow_42) (P := []) (M' := M) (L' := [some (.ref v), none, some (.int a2), some (.int a3), some (.int a4)]) (st' := [.int a4, .ref v, .int a3]) (pc' := 45) kX2_blocksBelow_42 rfl trivial rfl ?_
          refine Gx_callV (As := [.int a4]) (by decide +kernel) ml_2_86 okX2_blocksOf mvX2_blocksOf rfl (by decide) (Nat.le_of_ble_eq_true rfl) (xVol_0 h_v) rfl rfl (tX2_blocksOf h_v h) (fun rr M45 qq => ?_)
          obtain ⟨r45, rfl, h⟩ := qq
          show Gx l E mX2_blocksBelow _ 48 M45 [some (.ref v), none, some (.int a2), some (.int a3), some (.int a4)] [.int r45, .int a3]
          refine Gx_goto (off := 4) (tgt := 52) (by decide +kernel) (by decide) ?_
          refine Gx_mask [true, false, true, false, true] (L' := [some (.ref v), none, some (.int a2), none, some (.int a4)]) rfl ?_
          exact tX2_blocksBelow_52 h_v  hk25 M45 a2 a4 r45 a3 h
def wX2_blocksBelow_19 (v : Nat) (p1 : Int32) (Q : Int32 → xM → Prop) (M : xM) (s0 : Int32) : Prop :=
    (∃ n : Nat, lX2_blocksBelow_25 v p1 Q n M s0 (0 : Int32) (0 : Int32))
set_option maxHeartbeats 4000000 in
set_option maxRecDepth 100000 in
theorem tX2_blocksBelow_19 {l : Launch} {E : xE} {v : Nat} {p1 : Int32} {Q : Int32 → xM → Prop} (h_v : xVol v) (M : xM) (s0 : Int32) (h : wX2_blocksBelow_19 v p1 Q M s0) : Gx l E mX2_blocksBelow (xRi Q) 19 M [some (.ref v), none, none, none, none] [.int s0] := by
  unfold wX2_blocksBelow_19 at h
  refine Gx_run (es := eX2_blocksBelow_19) (P := []) (M' := M) (L' := [some (.ref v), none, some (.int s0), some (.int (0 : Int32)), some (.int (0 : Int32))]) (st' := []) (pc' := 25) kX2_blocksBelow_19 rfl trivial rfl ?_
  refine Gx_mask [true, false, true, true, true] (L' := [some (.ref v), none, some (.int s0), some (.int (0 : Int32)), some (.int (0 : Int32))]) rfl ?_
  obtain ⟨n, h⟩ := h
  exact tX2_blocksBelow_25 h_v  n M s0 (0 : Int32) (0 : Int32) h
def wX2_blocksBelow (M : xM) (v : Nat) (p1 : Int32) (Q : Int32 → xM → Prop) : Prop :=
    wX2_isDirectory M v p1 (fun r2 M2 => (((r2 = 0) → (wX2_blocksBelow_19 v p1 Q M2 ((1 : Int32) <<< (p1 &&& 31)))) ∧ ((¬ r2 = 0) → (wX2_reachedFrom M2 v p1 (fun r10 M10 => wX2_blocksBelow_19 v p1 Q M10 r10)))))
set_option maxHeartbeats 4000000 in
set_option maxRecDepth 100000 in
theorem tX2_blocksBelow {l : Launch} {E : xE} {M : xM} {v : Nat} {p1 : Int32} {Q : Int32 → xM → Prop} (h_v : xVol v) (h : wX2_blocksBelow M v p1 Q) : Ct l E mX2_blocksBelow [.ref v, .int p1] M (xRi Q) := by
  refine Ct_of (by decide +kernel) rfl (Nat.le_of_ble_eq_true rfl) ?_
  unfold wX2_blocksBelow at h
  show Gx l E mX2_blocksBelow (xRi Q) 0 M [some (.ref v), some (.int p1), none, none, none] []
  refine Gx_run (es := eX2_blocksBelow_0) (P := []) (M' := M) (L' := [some (.ref v), some (.int p1), none, none, none]) (st' := [.int p1, .ref v]) (pc' := 2) kX2_blocksBelow_0 rfl trivial rfl ?_
  refine Gx_callV (As := [.int p1]) (by decide +kernel) ml_2_49 okX2_isDirectory mvX2_isDirectory rfl (by decide) (Nat.le_of_ble_eq_true rfl) (xVol_0 h_v) rfl rfl (tX2_isDirectory h_v h) (fun rr M2 qq => ?_)
  obtain ⟨r2, rfl, h⟩ := qq
  show Gx l E mX2_blocksBelow _ 5 M2 [some (.ref v), some (.int p1), none, none, none] [.int r2]
  refine Gx_if_eq (off := 11) (tgt := 16) (by decide +kernel) (by decide) (fun z => ?_) (fun z => ?_)
  · have h := h.1 z
    refine Gx_run (es := eX2_blocksBelow_16) (P := []) (M' := M2) (L' := [some (.ref v), some (.int p1), none, none, none]) (st' := [.int ((1 : Int32) <<< (p1 &&& 31))]) (pc' := 19) kX2_blocksBelow_16 rfl trivial rfl ?_
    refine Gx_mask [true, false, false, false, false] (L' := [some (.ref v), none, none, none, none]) rfl ?_
    exact tX2_blocksBelow_19 h_v  M2 ((1 : Int32) <<< (p1 &&& 31)) h
  · have h := h.2 z
    refine Gx_run (es := eX2_blocksBelow_8) (P := []) (M' := M2) (L' := [some (.ref v), some (.int p1), none, none, none]) (st' := [.int p1, .ref v]) (pc' := 10) kX2_blocksBelow_8 rfl trivial rfl ?_
    refine Gx_callV (As := [.int p1]) (by decide +kernel) ml_2_80 okX2_reachedFrom mvX2_reachedFrom rfl (by decide) (Nat.le_of_ble_eq_true rfl) (xVol_0 h_v) rfl rfl (tX2_reachedFrom h_v h) (fun rr M10 qq => ?_)
    obtain ⟨r10, rfl, h⟩ := qq
    show Gx l E mX2_blocksBelow _ 13 M10 [some (.ref v), some (.int p1), none, none, none] [.int r10]
    refine Gx_goto (off := 6) (tgt := 19) (by decide +kernel) (by decide) ?_
    refine Gx_mask [true, false, false, false, false] (L' := [some (.ref v), none, none, none, none]) rfl ?_
    exact tX2_blocksBelow_19 h_v  M10 r10 h
def eX2_inodesBelow_0 : List xI := [(.aload_n 0, 1, 0, 0, 0), (.iload_n 1, 1, 0, 0, 0)]
theorem kX2_inodesBelow_0 : xcode (xmb mX2_inodesBelow) (xmo mX2_inodesBelow) 0 eX2_inodesBelow_0 = true := by decide +kernel
def eX2_inodesBelow_21 : List xI := [(.bipush (-9), 2, 0, 0, (-9))]
theorem kX2_inodesBelow_21 : xcode (xmb mX2_inodesBelow) (xmo mX2_inodesBelow) 21 eX2_inodesBelow_21 = true := by decide +kernel
def eX2_inodesBelow_8 : List xI := [(.aload_n 0, 1, 0, 0, 0), (.iload_n 1, 1, 0, 0, 0)]
theorem kX2_inodesBelow_8 : xcode (xmb mX2_inodesBelow) (xmo mX2_inodesBelow) 8 eX2_inodesBelow_8 = true := by decide +kernel
def eX2_inodesBelow_16 : List xI := [(.iconst 1, 1, 0, 0, (1)), (.isub, 1, 0, 0, 0)]
theorem kX2_inodesBelow_16 : xcode (xmb mX2_inodesBelow) (xmo mX2_inodesBelow) 16 eX2_inodesBelow_16 = true := by decide +kernel
def wX2_inodesBelow_23 (v : Nat) (p1 : Int32) (Q : Int32 → xM → Prop) (M : xM) (s0 : Int32) : Prop :=
    Q s0 M
set_option maxHeartbeats 4000000 in
set_option maxRecDepth 100000 in
theorem tX2_inodesBelow_23 {l : Launch} {E : xE} {v : Nat} {p1 : Int32} {Q : Int32 → xM → Prop} (h_v : xVol v) (M : xM) (s0 : Int32) (h : wX2_inodesBelow_23 v p1 Q M s0) : Gx l E mX2_inodesBelow (xRi Q) 23 M [none, none] [.int s0] := by
  unfold wX2_inodesBelow_23 at h
  exact Gx_iret (by decide +kernel) rfl rfl ⟨_, rfl, h⟩
def wX2_inodesBelow (M : xM) (v : Nat) (p1 : Int32) (Q : Int32 → xM → Prop) : Prop :=
    wX2_isDirectory M v p1 (fun r2 M2 => (((r2 = 0) → (wX2_inodesBelow_23 v p1 Q M2 (-9 : Int32))) ∧ ((¬ r2 = 0) → (wX2_reachedFrom M2 v p1 (fun r10 M10 => wJ6_bitCount_0f7a4 M10 r10 (fun r13 M13 => wX2_inodesBelow_23 v p1 Q M13 (r13 - (1 : Int32))))))))
set_option maxHeartbeats 4000000 in
set_option maxRecDepth 100000 in
theorem tX2_inodesBelow {l : Launch} {E : xE} {M : xM} {v : Nat} {p1 : Int32} {Q : Int32 → xM → Prop} (h_v : xVol v) (h : wX2_inodesBelow M v p1 Q) : Ct l E mX2_inodesBelow [.ref v, .int p1] M (xRi Q) := by
  refine Ct_of (by decide +kernel) rfl (Nat.le_of_ble_eq_true rfl) ?_
  unfold wX2_inodesBelow at h
  show Gx l E mX2_inodesBelow (xRi Q) 0 M [some (.ref v), some (.int p1)] []
  refine Gx_run (es := eX2_inodesBelow_0) (P := []) (M' := M) (L' := [some (.ref v), some (.int p1)]) (st' := [.int p1, .ref v]) (pc' := 2) kX2_inodesBelow_0 rfl trivial rfl ?_
  refine Gx_callV (As := [.int p1]) (by decide +kernel) ml_2_49 okX2_isDirectory mvX2_isDirectory rfl (by decide) (Nat.le_of_ble_eq_true rfl) (xVol_0 h_v) rfl rfl (tX2_isDirectory h_v h) (fun rr M2 qq => ?_)
  obtain ⟨r2, rfl, h⟩ := qq
  show Gx l E mX2_inodesBelow _ 5 M2 [some (.ref v), some (.int p1)] [.int r2]
  refine Gx_if_eq (off := 16) (tgt := 21) (by decide +kernel) (by decide) (fun z => ?_) (fun z => ?_)
  · have h := h.1 z
    refine Gx_run (es := eX2_inodesBelow_21) (P := []) (M' := M2) (L' := [some (.ref v), some (.int p1)]) (st' := [.int (-9 : Int32)]) (pc' := 23) kX2_inodesBelow_21 rfl trivial rfl ?_
    refine Gx_mask [false, false] (L' := [none, none]) rfl ?_
    exact tX2_inodesBelow_23 h_v  M2 (-9 : Int32) h
  · have h := h.2 z
    refine Gx_run (es := eX2_inodesBelow_8) (P := []) (M' := M2) (L' := [some (.ref v), some (.int p1)]) (st' := [.int p1, .ref v]) (pc' := 10) kX2_inodesBelow_8 rfl trivial rfl ?_
    refine Gx_callV (As := [.int p1]) (by decide +kernel) ml_2_80 okX2_reachedFrom mvX2_reachedFrom rfl (by decide) (Nat.le_of_ble_eq_true rfl) (xVol_0 h_v) rfl rfl (tX2_reachedFrom h_v h) (fun rr M10 qq => ?_)
    obtain ⟨r10, rfl, h⟩ := qq
    show Gx l E mX2_inodesBelow _ 13 M10 [some (.ref v), some (.int p1)] [.int r10]
    refine Gx_callS (As := [.int r10]) (by decide +kernel) ml_2_83 okJ6_bitCount_0f7a4 mvJ6_bitCount_0f7a4 rfl (by decide) (Nat.le_of_ble_eq_true rfl) (tJ6_bitCount_0f7a4 h) (fun rr M13 qq => ?_)
    obtain ⟨r13, rfl, h⟩ := qq
    show Gx l E mX2_inodesBelow _ 16 M13 [some (.ref v), some (.int p1)] [.int r13]
    refine Gx_run (es := eX2_inodesBelow_16) (P := []) (M' := M13) (L' := [some (.ref v), some (.int p1)]) (st' := [.int (r13 - (1 : Int32))]) (pc' := 18) kX2_inodesBelow_16 rfl trivial rfl ?_
    refine Gx_goto (off := 5) (tgt := 23) (by decide +kernel) (by decide) ?_
    refine Gx_mask [false, false] (L' := [none, none]) rfl ?_
    exact tX2_inodesBelow_23 h_v  M13 (r13 - (1 : Int32)) h
def eX3_shared_0 : List xI := [(.iload_n 1, 1, 0, 0, 0)]
theorem kX3_shared_0 : xcode (xmb mX3_shared) (xmo mX3_shared) 0 eX3_shared_0 = true := by decide +kernel
def eX3_shared_16 : List xI := [(.iload_n 1, 1, 0, 0, 0)]
theorem kX3_shared_16 : xcode (xmb mX3_shared) (xmo mX3_shared) 16 eX3_shared_16 = true := by decide +kernel
def eX3_shared_30 : List xI := [(.aload_n 0, 1, 0, 0, 0), (.getfield 10, 3, 3, 0, 0)]
theorem kX3_shared_30 : xcode (xmb mX3_shared) (xmo mX3_shared) 30 eX3_shared_30 = true := by decide +kernel
def eX3_shared_20 : List xI := [(.aload_n 0, 1, 0, 0, 0), (.getfield 10, 3, 3, 0, 0)]
theorem kX3_shared_20 : xcode (xmb mX3_shared) (xmo mX3_shared) 20 eX3_shared_20 = true := by decide +kernel
def eX3_shared_4 : List xI := [(.iload_n 1, 1, 0, 0, 0), (.iconst 1, 1, 0, 0, (1))]
theorem kX3_shared_4 : xcode (xmb mX3_shared) (xmo mX3_shared) 4 eX3_shared_4 = true := by decide +kernel
def eX3_shared_9 : List xI := [(.aload_n 0, 1, 0, 0, 0), (.bipush (-2), 2, 0, 0, (-2))]
theorem kX3_shared_9 : xcode (xmb mX3_shared) (xmo mX3_shared) 9 eX3_shared_9 = true := by decide +kernel
def wX3_shared_37 (p1 : Int32) (Q : Int32 → xM → Prop) (M : xM) (s0 : Int32) : Prop :=
    Q s0 M
set_option maxHeartbeats 4000000 in
set_option maxRecDepth 100000 in
theorem tX3_shared_37 {l : Launch} {E : xE} {p1 : Int32} {Q : Int32 → xM → Prop} (M : xM) (s0 : Int32) (h : wX3_shared_37 p1 Q M s0) : Gx l E mX3_shared (xRi Q) 37 M [none, none] [.int s0] := by
  unfold wX3_shared_37 at h
  exact Gx_iret (by decide +kernel) rfl rfl ⟨_, rfl, h⟩
def wX3_shared_16 (p1 : Int32) (Q : Int32 → xM → Prop) (M : xM) : Prop :=
    (((¬ p1 = 0) → (wX2_freeBlock M 1 (fun r34 M34 => wX3_shared_37 p1 Q M34 r34))) ∧ ((p1 = 0) → (wX2_blocksShared M 1 (fun r24 M24 => wX3_shared_37 p1 Q M24 r24))))
set_option maxHeartbeats 4000000 in
set_option maxRecDepth 100000 in
theorem tX3_shared_16 {l : Launch} {E : xE} {p1 : Int32} {Q : Int32 → xM → Prop} (M : xM) (h : wX3_shared_16 p1 Q M ) : Gx l E mX3_shared (xRi Q) 16 M [some (.ref 0), some (.int p1)] [] := by
  unfold wX3_shared_16 at h
  refine Gx_run (es := eX3_shared_16) (P := []) (M' := M) (L' := [some (.ref 0), some (.int p1)]) (st' := [.int p1]) (pc' := 17) kX3_shared_16 rfl trivial rfl ?_
  refine Gx_if_ne (off := 13) (tgt := 30) (by decide +kernel) (by decide) (fun z => ?_) (fun z => ?_)
  · have h := h.1 z
    refine Gx_run (es := eX3_shared_30) (P := [xkd 0 = 3]) (M' := M) (L' := [some (.ref 0), some (.int p1)]) (st' := [.ref 1]) (pc' := 34) kX3_shared_30 rfl ⟨rfl, trivial⟩ rfl ?_
    refine Gx_callV (As := []) (by decide +kernel) ml_3_198 okX2_freeBlock mvX2_freeBlock rfl (by decide) (Nat.le_of_ble_eq_true rfl) rfl rfl rfl (tX2_freeBlock xVol_at1 h) (fun rr M34 qq => ?_)
    obtain ⟨r34, rfl, h⟩ := qq
    show Gx l E mX3_shared _ 37 M34 [some (.ref 0), some (.int p1)] [.int r34]
    refine Gx_mask [false, false] (L' := [none, none]) rfl ?_
    exact tX3_shared_37  M34 r34 h
  · have h := h.2 z
    refine Gx_run (es := eX3_shared_20) (P := [xkd 0 = 3]) (M' := M) (L' := [some (.ref 0), some (.int p1)]) (st' := [.ref 1]) (pc' := 24) kX3_shared_20 rfl ⟨rfl, trivial⟩ rfl ?_
    refine Gx_callV (As := []) (by decide +kernel) ml_3_195 okX2_blocksShared mvX2_blocksShared rfl (by decide) (Nat.le_of_ble_eq_true rfl) rfl rfl rfl (tX2_blocksShared xVol_at1 h) (fun rr M24 qq => ?_)
    obtain ⟨r24, rfl, h⟩ := qq
    show Gx l E mX3_shared _ 27 M24 [some (.ref 0), some (.int p1)] [.int r24]
    refine Gx_goto (off := 10) (tgt := 37) (by decide +kernel) (by decide) ?_
    refine Gx_mask [false, false] (L' := [none, none]) rfl ?_
    exact tX3_shared_37  M24 r24 h
def wX3_shared (M : xM) (p1 : Int32) (Q : Int32 → xM → Prop) : Prop :=
    (((p1 = 0) → (wX3_shared_16 p1 Q M)) ∧ ((¬ p1 = 0) → ((((p1 = (1 : Int32)) → (wX3_shared_16 p1 Q M)) ∧ ((¬ p1 = (1 : Int32)) → (wX3_refusal M (-2 : Int32) (fun r12 M12 => Q r12 M12)))))))
set_option maxHeartbeats 4000000 in
set_option maxRecDepth 100000 in
theorem tX3_shared {l : Launch} {E : xE} {M : xM} {p1 : Int32} {Q : Int32 → xM → Prop} (h : wX3_shared M p1 Q) : Ct l E mX3_shared [.ref 0, .int p1] M (xRi Q) := by
  refine Ct_of (by decide +kernel) rfl (Nat.le_of_ble_eq_true rfl) ?_
  unfold wX3_shared at h
  show Gx l E mX3_shared (xRi Q) 0 M [some (.ref 0), some (.int p1)] []
  refine Gx_run (es := eX3_shared_0) (P := []) (M' := M) (L' := [some (.ref 0), some (.int p1)]) (st' := [.int p1]) (pc' := 1) kX3_shared_0 rfl trivial rfl ?_
  refine Gx_if_eq (off := 15) (tgt := 16) (by decide +kernel) (by decide) (fun z => ?_) (fun z => ?_)
  · have h := h.1 z
    refine Gx_mask [true, true] (L' := [some (.ref 0), some (.int p1)]) rfl ?_
    exact tX3_shared_16  M h
  · have h := h.2 z
    refine Gx_run (es := eX3_shared_4) (P := []) (M' := M) (L' := [some (.ref 0), some (.int p1)]) (st' := [.int (1 : Int32), .int p1]) (pc' := 6) kX3_shared_4 rfl trivial rfl ?_
    refine Gx_icmp_eq (off := 10) (tgt := 16) (by decide +kernel) (by decide) (fun z => ?_) (fun z => ?_)
    · have h := h.1 z
      refine Gx_mask [true, true] (L' := [some (.ref 0), some (.int p1)]) rfl ?_
      exact tX3_shared_16  M h
    · have h := h.2 z
      refine Gx_run (es := eX3_shared_9) (P := []) (M' := M) (L' := [some (.ref 0), some (.int p1)]) (st' := [.int (-2 : Int32), .ref 0]) (pc' := 12) kX3_shared_9 rfl trivial rfl ?_
      refine Gx_callV (As := [.int (-2 : Int32)]) (by decide +kernel) ml_3_63 okX3_refusal mvX3_refusal rfl (by decide) (Nat.le_of_ble_eq_true rfl) rfl rfl rfl (tX3_refusal h) (fun rr M12 qq => ?_)
      obtain ⟨r12, rfl, h⟩ := qq
      show Gx l E mX3_shared _ 15 M12 [some (.ref 0), some (.int p1)] [.int r12]
      exact Gx_iret (by decide +kernel) rfl rfl ⟨_, rfl, h⟩
def eX4_blocksBelow_0 : List xI := [(.aload_n 0, 1, 0, 0, 0), (.aload_n 0, 1, 0, 0, 0), (.iload_n 1, 1, 0, 0, 0)]
theorem kX4_blocksBelow_0 : xcode (xmb mX4_blocksBelow) (xmo mX4_blocksBelow) 0 eX4_blocksBelow_0 = true := by decide +kernel
def eX4_blocksBelow_18 : List xI := [(.iconst 1, 1, 0, 0, (1)), (.iload_n 1, 1, 0, 0, 0), (.ishl, 1, 0, 0, 0)]
theorem kX4_blocksBelow_18 : xcode (xmb mX4_blocksBelow) (xmo mX4_blocksBelow) 18 eX4_blocksBelow_18 = true := by decide +kernel
def eX4_blocksBelow_9 : List xI := [(.aload_n 0, 1, 0, 0, 0), (.iload_n 1, 1, 0, 0, 0), (.iconst 0, 1, 0, 0, (0))]
theorem kX4_blocksBelow_9 : xcode (xmb mX4_blocksBelow) (xmo mX4_blocksBelow) 9 eX4_blocksBelow_9 = true := by decide +kernel
def wX4_blocksBelow_21 (p1 : Int32) (Q : Int32 → xM → Prop) (M : xM) (s0 : Int32) : Prop :=
    wX4_blocksOf M s0 (fun r21 M21 => wX4_countOf M21 r21 (fun r24 M24 => Q r24 M24))
set_option maxHeartbeats 4000000 in
set_option maxRecDepth 100000 in
theorem tX4_blocksBelow_21 {l : Launch} {E : xE} {p1 : Int32} {Q : Int32 → xM → Prop} (M : xM) (s0 : Int32) (h : wX4_blocksBelow_21 p1 Q M s0) : Gx l E mX4_blocksBelow (xRi Q) 21 M [none, none] [.int s0, .ref 50] := by
  unfold wX4_blocksBelow_21 at h
  refine Gx_callV (As := [.int s0]) (by decide +kernel) ml_4_208 okX4_blocksOf mvX4_blocksOf rfl (by decide) (Nat.le_of_ble_eq_true rfl) rfl rfl rfl (tX4_blocksOf h) (fun rr M21 qq => ?_)
  obtain ⟨r21, rfl, h⟩ := qq
  show Gx l E mX4_blocksBelow _ 24 M21 [none, none] [.int r21]
  refine Gx_callS (As := [.int r21]) (by decide +kernel) ml_4_211 okX4_countOf mvX4_countOf rfl (by decide) (Nat.le_of_ble_eq_true rfl) (tX4_countOf h) (fun rr M24 qq => ?_)
  obtain ⟨r24, rfl, h⟩ := qq
  show Gx l E mX4_blocksBelow _ 27 M24 [none, none] [.int r24]
  exact Gx_iret (by decide +kernel) rfl rfl ⟨_, rfl, h⟩
def wX4_blocksBelow (M : xM) (p1 : Int32) (Q : Int32 → xM → Prop) : Prop :=
    wX4_isDirectory M p1 (fun r3 M3 => (((r3 = 0) → (wX4_blocksBelow_21 p1 Q M3 ((1 : Int32) <<< (p1 &&& 31)))) ∧ ((¬ r3 = 0) → (wX4_reached M3 p1 (0 : Int32) (fun r12 M12 => wX4_blocksBelow_21 p1 Q M12 r12)))))
set_option maxHeartbeats 4000000 in
set_option maxRecDepth 100000 in
theorem tX4_blocksBelow {l : Launch} {E : xE} {M : xM} {p1 : Int32} {Q : Int32 → xM → Prop} (h : wX4_blocksBelow M p1 Q) : Ct l E mX4_blocksBelow [.ref 50, .int p1] M (xRi Q) := by
  refine Ct_of (by decide +kernel) rfl (Nat.le_of_ble_eq_true rfl) ?_
  unfold wX4_blocksBelow at h
  show Gx l E mX4_blocksBelow (xRi Q) 0 M [some (.ref 50), some (.int p1)] []
  refine Gx_run (es := eX4_blocksBelow_0) (P := []) (M' := M) (L' := [some (.ref 50), some (.int p1)]) (st' := [.int p1, .ref 50, .ref 50]) (pc' := 3) kX4_blocksBelow_0 rfl trivial rfl ?_
  refine Gx_callV (As := [.int p1]) (by decide +kernel) ml_4_152 okX4_isDirectory mvX4_isDirectory rfl (by decide) (Nat.le_of_ble_eq_true rfl) rfl rfl rfl (tX4_isDirectory h) (fun rr M3 qq => ?_)
  obtain ⟨r3, rfl, h⟩ := qq
  show Gx l E mX4_blocksBelow _ 6 M3 [some (.ref 50), some (.int p1)] [.int r3, .ref 50]
  refine Gx_if_eq (off := 12) (tgt := 18) (by decide +kernel) (by decide) (fun z => ?_) (fun z => ?_)
  · have h := h.1 z
    refine Gx_run (es := eX4_blocksBelow_18) (P := []) (M' := M3) (L' := [some (.ref 50), some (.int p1)]) (st' := [.int ((1 : Int32) <<< (p1 &&& 31)), .ref 50]) (pc' := 21) kX4_blocksBelow_18 rfl trivial rfl ?_
    refine Gx_mask [false, false] (L' := [none, none]) rfl ?_
    exact tX4_blocksBelow_21  M3 ((1 : Int32) <<< (p1 &&& 31)) h
  · have h := h.2 z
    refine Gx_run (es := eX4_blocksBelow_9) (P := []) (M' := M3) (L' := [some (.ref 50), some (.int p1)]) (st' := [.int (0 : Int32), .int p1, .ref 50, .ref 50]) (pc' := 12) kX4_blocksBelow_9 rfl trivial rfl ?_
    refine Gx_callV (As := [.int p1, .int (0 : Int32)]) (by decide +kernel) ml_4_165 okX4_reached mvX4_reached rfl (by decide) (Nat.le_of_ble_eq_true rfl) rfl rfl rfl (tX4_reached h) (fun rr M12 qq => ?_)
    obtain ⟨r12, rfl, h⟩ := qq
    show Gx l E mX4_blocksBelow _ 15 M12 [some (.ref 50), some (.int p1)] [.int r12, .ref 50]
    refine Gx_goto (off := 6) (tgt := 21) (by decide +kernel) (by decide) ?_
    refine Gx_mask [false, false] (L' := [none, none]) rfl ?_
    exact tX4_blocksBelow_21  M12 r12 h
