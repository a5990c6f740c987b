/-! memory steps; xs: a straight stretch at once -/
section XM
variable {l : Launch} {E : xE} {m : xMt} {R : Option Value → xM → Prop} {pc : Nat} {M : xM} {L : List (Option Value)} {st : List Value}
theorem xvw {ci : Nat} (h : ci < 5) : ∃ n, vwCl[ci]? = some ((vwCl.getD ci ("", fun _ => ("", "", "", false), 0)).1, (vwCl.getD ci ("", fun _ => ("", "", "", false), 0)).2.1, n) ∧ n = xnf ci ∧ ∀ w ∈ u_ws (vwCl.getD ci ("", fun _ => ("", "", "", false), 0)).1 (vwCl.getD ci ("", fun _ => ("", "", "", false), 0)).2.1 n, w ∈ xTbl := by
  match ci, h with
  | 0, _ => exact ⟨7, rfl, rfl, xly_0⟩
  | 1, _ => exact ⟨2, rfl, rfl, xly_1⟩
  | 2, _ => exact ⟨8, rfl, rfl, xly_2⟩
  | 3, _ => exact ⟨13, rfl, rfl, xly_3⟩
  | 4, _ => exact ⟨18, rfl, rfl, xly_4⟩
theorem xfd_eq {a b : Nat} (h : a < 5) : xfd a b = (((vwCl.getD a ("", fun _ => ("", "", "", false), 0)).2.1 b).1, ((vwCl.getD a ("", fun _ => ("", "", "", false), 0)).2.1 b).2.1, ((vwCl.getD a ("", fun _ => ("", "", "", false), 0)).2.1 b).2.2.1) := by
  match a, h with
  | 0, _ => rfl
  | 1, _ => rfl
  | 2, _ => rfl
  | 3, _ => rfl
  | 4, _ => rfl
theorem x_get {idx a b p : Nat} {v : Value} (hd : decode (xmb m) pc = .ok (.getfield idx, 3)) (hl : (xmo m, idx, a, b) ∈ xft) (ha : a < 5) (hb : b < xnf a) (hk : xkd p = a) (hv : ∀ E : xE, xv E v = xfv E M p a b) (k : Gx l E m R (pc + 3) M L (v :: st)) : Gx l E m R pc M L (.ref p :: st) := by
  intro pr e s mi args below meth c H locs ls C hP hD hS hL
  have hp : p < 60 := xkd_lt (by omega)
  have h1 := xws_get E M hp
  rw [xcell_obj E M hk (by omega)] at h1
  obtain ⟨n, hc, hn, hin⟩ := xvw ha
  have hw := xft_ok _ hl
  simp only [xfd_eq ha] at hw
  have k1 := k pr e s mi args below meth c H locs ls C hP hD hS hL
  rw [List.map_cons, hv E] at k1
  rw [List.map_cons, xv_ref (show p ≠ 103 by omega)]
  exact va_get C.1 C.2.1 C.2.2.2.2.2.2.1 hin C.2.2.2.2.2.1 C.2.2.2.2.2.2.2.1.1 hP p h1 hc b (by omega) (C.2.2.2.2.2.2.1 _ hw) (fun x h => h) (xfs_get E M p a hb) hd k1
theorem Gx_getI {idx a b p : Nat} (hd : decode (xmb m) pc = .ok (.getfield idx, 3)) (hl : (xmo m, idx, a, b) ∈ xft) (ha : a < 5) (hb : b < xnf a) (hk : xkd p = a) (hf : xfo a b = none) (k : Gx l E m R (pc + 3) M L (.int (M p b) :: st)) : Gx l E m R pc M L (.ref p :: st) :=
  x_get hd hl ha hb hk (fun E => by unfold xfv; rw [hf]; rfl) k
theorem xfo_in : ∀ p, p < 60 → xkd p < 5 → ∀ k, k < 18 → ∀ o, xfo (xkd p) k = some o → p + o < 60 := by decide +kernel
theorem Gx_getR {idx a b p o : Nat} (hd : decode (xmb m) pc = .ok (.getfield idx, 3)) (hl : (xmo m, idx, a, b) ∈ xft) (ha : a < 5) (hb : b < xnf a) (hk : xkd p = a) (hf : xfo a b = some o) (k : Gx l E m R (pc + 3) M L (.ref (p + o) :: st)) : Gx l E m R pc M L (.ref p :: st) := by
  have hp : p < 60 := xkd_lt (by omega)
  have hb18 : b < 18 := by
    have : ∀ a, a < 5 → xnf a ≤ 18 := by decide
    have := this a ha
    omega
  have h60 := xfo_in p hp (by omega) b hb18 o (by rw [hk]; exact hf)
  exact x_get hd hl ha hb hk (fun E => by unfold xfv; rw [hf]; exact xv_ref (by omega)) k
/-- the fields of one bit -/
def xbit (a b : Nat) : Bool := (a == 3 && b == 3) || (a == 4 && (b == 4 || b == 9))
theorem x_put {idx a b p : Nat} {x : Int32} {ty : FieldType} (ty0 : Nat → FieldType) (hd : decode (xmb m) pc = .ok (.putfield idx, 3)) (hl : (xmo m, idx, a, b) ∈ xft) (ha : a < 5) (hb : b < xnf a) (hk : xkd p = a) (hf : xfo a b = none)
    (hty : ∀ k, k < xnf a → parseFieldDescriptor ((vwCl.getD a ("", fun _ => ("", "", "", false), 0)).2.1 k).2.2.1 = some (ty0 k)) (hnm : ∀ x, x < xnf a → ∀ y, y < xnf a → x ≠ y → ((vwCl.getD a ("", fun _ => ("", "", "", false), 0)).2.1 x).2.1 ≠ ((vwCl.getD a ("", fun _ => ("", "", "", false), 0)).2.1 y).2.1)
    (hfin : ((vwCl.getD a ("", fun _ => ("", "", "", false), 0)).2.1 b).2.2.2 = false) (hdt : ty0 b = ty) (hn : narrow ty (.int x) = .int x) (hfit : fits ty (.int x) = true) (k : Gx l E m R (pc + 3) (xup M p b x) L st) : Gx l E m R pc M L (.int x :: .ref p :: st) := by
  intro pr e s mi args below meth c H locs ls C hP hD hS hL
  have hp : p < 60 := xkd_lt (by omega)
  have h1 := xws_get E M hp
  rw [xcell_obj E M hk (by omega)] at h1
  obtain ⟨n, hc, hn0, hin⟩ := xvw ha
  subst hn0
  have hw := xft_ok _ hl
  simp only [xfd_eq ha] at hw
  rw [List.map_cons, List.map_cons, xv_int, xv_ref (show p ≠ 103 by omega)]
  refine va_put C.1 C.2.1 C.2.2.2.2.2.2.1 hin ty0 hty hnm C.2.2.2.2.2.1 C.2.2.2.2.2.2.2.1.1 hP hD hS p h1 hc b hb (C.2.2.2.2.2.2.1 _ hw) (fun x h => h) hfin (ty := ty) (by rw [← hdt]; exact hty b hb) hn hfit (by rw [xfs_len]; exact hb) hd (fun H1 locs1 hP1 hD1 hS1 => ?_)
  rw [xws_set E M (xup M p b x) hp (fun a ha => xup_ne M b x ha) (by rw [xcell_obj E _ hk (by omega), xfs_set E M p a x hf])] at hP1 hD1
  exact k pr e s mi args below meth c H1 locs1 ls C hP1 hD1 hS1 hL
theorem Gx_put {idx a b p : Nat} {x : Int32} (hd : decode (xmb m) pc = .ok (.putfield idx, 3)) (hl : (xmo m, idx, a, b) ∈ xft) (ha : a < 5) (hb : b < xnf a) (hk : xkd p = a) (hf : xfo a b = none) (hx : xbit a b = true → x = 0 ∨ x = 1) (k : Gx l E m R (pc + 3) (xup M p b x) L st) : Gx l E m R pc M L (.int x :: .ref p :: st) := by
  have key : ∀ b, b < xnf a → xfo a b = none → ((vwCl.getD a ("", fun _ => ("", "", "", false), 0)).2.1 b).2.2.2 = false ∧ ((xbit a b = true ∧ (([tyX0, tyX1, tyX2, tyX3, tyX4] : List (Nat → FieldType)).getD a tyX0) b = .boolean) ∨ (([tyX0, tyX1, tyX2, tyX3, tyX4] : List (Nat → FieldType)).getD a tyX0) b = .int) := by
    match a, ha with
    | 0, _ => decide +kernel
    | 1, _ => decide +kernel
    | 2, _ => decide +kernel
    | 3, _ => decide +kernel
    | 4, _ => decide +kernel
  obtain ⟨hfin, hty⟩ := key b hb hf
  have hp : (∀ k, k < xnf a → parseFieldDescriptor ((vwCl.getD a ("", fun _ => ("", "", "", false), 0)).2.1 k).2.2.1 = some ((([tyX0, tyX1, tyX2, tyX3, tyX4] : List (Nat → FieldType)).getD a tyX0) k)) ∧ (∀ x, x < xnf a → ∀ y, y < xnf a → x ≠ y → ((vwCl.getD a ("", fun _ => ("", "", "", false), 0)).2.1 x).2.1 ≠ ((vwCl.getD a ("", fun _ => ("", "", "", false), 0)).2.1 y).2.1) := by
    match a, ha with
    | 0, _ => exact ⟨tyX0_ok, nmX0⟩
    | 1, _ => exact ⟨tyX1_ok, nmX1⟩
    | 2, _ => exact ⟨tyX2_ok, nmX2⟩
    | 3, _ => exact ⟨tyX3_ok, nmX3⟩
    | 4, _ => exact ⟨tyX4_ok, nmX4⟩
  rcases hty with ⟨h1, h2⟩ | h2
  · exact x_put _ hd hl ha hb hk hf hp.1 hp.2 hfin h2 (by rcases hx h1 with rfl | rfl <;> rfl) (by rcases hx h1 with rfl | rfl <;> rfl) k
  · exact x_put _ hd hl ha hb hk hf hp.1 hp.2 hfin h2 rfl rfl k
theorem Gx_iald {p : Nat} {i : Int32} (hd : decode (xmb m) pc = .ok (.iaload, 1)) (hk : xkd p = 5) (hin : vp_in i (xln p)) (k : Gx l E m R (pc + 1) M L (.int (M p i.toNatClampNeg) :: st)) : Gx l E m R pc M L (.int i :: .ref p :: st) := by
  intro pr e s mi args below meth c H locs ls C hP hD hS hL
  have hp : p < 60 := xkd_lt (by omega)
  have h1 := xws_get E M hp
  rw [xcell_row E M hk] at h1
  rw [List.map_cons, List.map_cons, xv_int, xv_ref (show p ≠ 103 by omega)]
  exact va_iald C.1 C.2.1 C.2.2.2.2.2.2.2.1.1 hP p 0 h1 rfl hin hd (k pr e s mi args below meth c H locs ls C hP hD hS hL)
theorem Gx_iast {p : Nat} {i x : Int32} (hd : decode (xmb m) pc = .ok (.iastore, 1)) (hk : xkd p = 5) (hin : vp_in i (xln p)) (k : Gx l E m R (pc + 1) (xup M p i.toNatClampNeg x) L st) : Gx l E m R pc M L (.int x :: .int i :: .ref p :: st) := by
  intro pr e s mi args below meth c H locs ls C hP hD hS hL
  have hp : p < 60 := xkd_lt (by omega)
  have h1 := xws_get E M hp
  rw [xcell_row E M hk] at h1
  rw [List.map_cons, List.map_cons, List.map_cons, xv_int, xv_int, xv_ref (show p ≠ 103 by omega)]
  refine va_iast C.1 C.2.1 C.2.2.2.2.2.2.2.1.1 hP hD hS p 0 h1 rfl hin hd (fun H1 locs1 hP1 hD1 hS1 => ?_)
  rw [xws_set E M (xup M p i.toNatClampNeg x) hp (fun a ha => xup_ne M _ x ha) (by rw [xcell_row E _ hk, xup_at])] at hP1 hD1
  exact k pr e s mi args below meth c H1 locs1 ls C hP1 hD1 hS1 hL
theorem Gx_alen {p : Nat} (hd : decode (xmb m) pc = .ok (.arraylength, 1)) (hk : xkd p = 5) (k : Gx l E m R (pc + 1) M L (.int (nI (xln p)) :: st)) : Gx l E m R pc M L (.ref p :: st) := by
  intro pr e s mi args below meth c H locs ls C hP hD hS hL
  have hp : p < 60 := xkd_lt (by omega)
  have h1 := xws_get E M hp
  rw [xcell_row E M hk] at h1
  rw [List.map_cons, xv_ref (show p ≠ 103 by omega)]
  exact va_alen C.1 C.2.1 C.2.2.2.2.2.2.2.1.1 hP p 0 h1 rfl rfl hd (k pr e s mi args below meth c H locs ls C hP hD hS hL)
-- what is static
theorem Gx_holds {i : Int32} (hd : decode (xmb m) pc = .ok (.iaload, 1)) (hin : vp_in i 6) (k : Gx l E m R (pc + 1) M L (.int (xhold i.toNatClampNeg) :: st)) : Gx l E m R pc M L (.int i :: .ref 100 :: st) := by
  intro pr e s mi args below meth c H locs ls C hP hD hS hL
  rw [List.map_cons, List.map_cons, xv_int, xv_ref (show 100 ≠ 103 by omega)]
  exact va_ti C.1 C.2.1 C.2.2.2.2.2.2.2.1.2.1.2.1 hS hin rfl hd (k pr e s mi args below meth c H locs ls C hP hD hS hL)
theorem Gx_lists {i : Int32} (hd : decode (xmb m) pc = .ok (.iaload, 1)) (hin : vp_in i 6) (k : Gx l E m R (pc + 1) M L (.int (xlist i.toNatClampNeg) :: st)) : Gx l E m R pc M L (.int i :: .ref 101 :: st) := by
  intro pr e s mi args below meth c H locs ls C hP hD hS hL
  rw [List.map_cons, List.map_cons, xv_int, xv_ref (show 101 ≠ 103 by omega)]
  exact va_ti C.1 C.2.1 C.2.2.2.2.2.2.2.1.2.1.2.2.2.1 hS hin rfl hd (k pr e s mi args below meth c H locs ls C hP hD hS hL)
theorem Gx_bald {i : Int32} {j : Nat} (hd : decode (xmb m) pc = .ok (.baload, 1)) (hj : j < 9) (hin : vp_in i (xsl j)) (k : Gx l E m R (pc + 1) M L (.int (xsb j i.toNatClampNeg) :: st)) : Gx l E m R pc M L (.int i :: .ref (130 + j) :: st) := by
  intro pr e s mi args below meth c H locs ls C hP hD hS hL
  rw [List.map_cons, List.map_cons, xv_int, xv_ref (show 130 + j ≠ 103 by omega)]
  exact va_tb C.1 C.2.1 (C.2.2.2.2.2.2.2.1.2.1.2.2.2.2.2.2.2 j hj).2.2.2 hS hin rfl hd (k pr e s mi args below meth c H locs ls C hP hD hS hL)
theorem Gx_blen {j : Nat} (hd : decode (xmb m) pc = .ok (.arraylength, 1)) (hj : j < 9) (k : Gx l E m R (pc + 1) M L (.int (nI (xsl j)) :: st)) : Gx l E m R pc M L (.ref (130 + j) :: st) := by
  intro pr e s mi args below meth c H locs ls C hP hD hS hL
  rw [List.map_cons, xv_ref (show 130 + j ≠ 103 by omega)]
  exact va_tlen C.1 C.2.1 (C.2.2.2.2.2.2.2.1.2.1.2.2.2.2.2.2.2 j hj).2.2.2 hS rfl hd (k pr e s mi args below meth c H locs ls C hP hD hS hL)
theorem Gx_value {j idx : Nat} (hd : decode (xmb m) pc = .ok (.getfield idx, 3)) (hl : (xmo m, idx, 9, 0) ∈ xft) (hj : j < 9) (k : Gx l E m R (pc + 3) M L (.ref (130 + j) :: st)) : Gx l E m R pc M L (.ref (110 + j) :: st) := by
  intro pr e s mi args below meth c H locs ls C hP hD hS hL
  have k1 := k pr e s mi args below meth c H locs ls C hP hD hS hL
  rw [List.map_cons, xv_ref (show 130 + j ≠ 103 by omega)] at k1
  rw [List.map_cons, xv_ref (show 110 + j ≠ 103 by omega)]
  exact vk_getf C.1 C.2.1 (C.2.2.2.2.2.2.2.1.2.1.2.2.2.2.2.2.2 j hj).2.2.1 hS C.2.2.2.2.2.1 (C.2.2.2.2.2.2.1 _ (xft_ok _ hl)) (fun x h => h) hd k1
theorem Gx_coder {j idx : Nat} (hd : decode (xmb m) pc = .ok (.getfield idx, 3)) (hl : (xmo m, idx, 9, 1) ∈ xft) (hj : j < 9) (k : Gx l E m R (pc + 3) M L (.int 0 :: st)) : Gx l E m R pc M L (.ref (110 + j) :: st) := by
  intro pr e s mi args below meth c H locs ls C hP hD hS hL
  have k1 := k pr e s mi args below meth c H locs ls C hP hD hS hL
  rw [List.map_cons, xv_int] at k1
  rw [List.map_cons, xv_ref (show 110 + j ≠ 103 by omega)]
  exact vk_getf C.1 C.2.1 (C.2.2.2.2.2.2.2.1.2.1.2.2.2.2.2.2.2 j hj).2.1 hS C.2.2.2.2.2.1 (C.2.2.2.2.2.2.1 _ (xft_ok _ hl)) (fun x h => h) hd k1
/-- the value of a static, by its place in xgd -/
def xgv (a : Nat) : Value := ([.ref 100, .ref 101, .int 1, .ref 103] : List Value).getD a .null
theorem Gx_gets {idx a : Nat} (hd : decode (xmb m) pc = .ok (.getstatic idx, 3)) (hl : (xmo m, idx, a) ∈ xgt) (ha : a < 4) (k : Gx l E m R (pc + 3) M L (xgv a :: st)) : Gx l E m R pc M L st := by
  intro pr e s mi args below meth c H locs ls C hP hD hS hL
  have k1 := k pr e s mi args below meth c H locs ls C hP hD hS hL
  have hw := C.2.2.2.2.2.2.1 _ (xgt_ok _ hl)
  have hZ := C.2.2.2.2.2.2.2.1.2.1
  match a, ha with
  | 0, _ => exact va_gets C.1 C.2.1 hZ.1 hS C.2.2.2.2.2.1 hw (fun x h => h) hd k1
  | 1, _ => exact va_gets C.1 C.2.1 hZ.2.2.1 hS C.2.2.2.2.2.1 hw (fun x h => h) hd k1
  | 2, _ => exact va_gets C.1 C.2.1 hZ.2.2.2.2.1 hS C.2.2.2.2.2.1 hw (fun x h => h) hd k1
  | 3, _ => exact va_gets C.1 C.2.1 hZ.2.2.2.2.2.1 hS C.2.2.2.2.2.1 hw (fun x h => h) hd k1
/-- .. out of a nested class: the class, the number there, the place in xgd -/
def xgn : List (Nat × Nat × Nat) := [(0, 89, 0), (0, 106, 1), (2, 89, 1)]
theorem Gx_getsN {idx a : Nat} (hd : decode (xmb m) pc = .ok (.getstatic idx, 3)) (hl : (xmo m, idx, a) ∈ xgn) (k : Gx l E m R (pc + 3) M L (xgv a :: st)) : Gx l E m R pc M L st := by
  intro pr e s mi args below meth c H locs ls C hP hD hS hL
  have k1 := k pr e s mi args below meth c H locs ls C hP hD hS hL
  have hZ := C.2.2.2.2.2.2.2.1.2.1
  have hN := C.2.2.2.2.2.2.2.1.2.2.2
  have hown := C.2.2.2.2.2.1
  simp only [xgn, List.mem_cons, List.not_mem_nil, or_false, Prod.mk.injEq] at hl
  rcases hl with ⟨h1, rfl, rfl⟩ | ⟨h1, rfl, rfl⟩ | ⟨h1, rfl, rfl⟩
  · rw [h1] at hown
    exact va_getsN C.1 C.2.1 hZ.1 hS hown (va_Nw.use rfl hN.1) (fun x h => h) hd k1
  · rw [h1] at hown
    exact va_getsN C.1 C.2.1 hZ.2.2.1 hS hown (va_Nw.use rfl hN.2.1) (fun x h => h) hd k1
  · rw [h1] at hown
    exact va_getsN C.1 C.2.1 hZ.2.2.1 hS hown (va_Nw.use rfl hN.2.2.1) (fun x h => h) hd k1
theorem Gx_ldc {idx : Nat} {v : Int32} (hd : decode (xmb m) pc = .ok (.ldc idx, 2)) (hl : (xmo m, idx, v) ∈ xct) (k : Gx l E m R (pc + 2) M L (.int v :: st)) : Gx l E m R pc M L st := by
  intro pr e s mi args below meth c H locs ls C hP hD hS hL
  exact lv_ldc C.1 C.2.1 C.2.2.2.2.2.1 (C.2.2.2.2.2.2.1 _ (xct_ok _ hl)) hd (k pr e s mi args below meth c H locs ls C hP hD hS hL)
theorem Gx_ldcw {idx : Nat} {v : Int32} (hd : decode (xmb m) pc = .ok (.ldc_w idx, 3)) (hl : (xmo m, idx, v) ∈ xct) (k : Gx l E m R (pc + 3) M L (.int v :: st)) : Gx l E m R pc M L st := by
  intro pr e s mi args below meth c H locs ls C hP hD hS hL
  exact lv_ldcw C.1 C.2.1 C.2.2.2.2.2.1 (C.2.2.2.2.2.2.1 _ (xct_ok _ hl)) hd (k pr e s mi args below meth c H locs ls C hP hD hS hL)
theorem Gx_ldcS {idx b : Nat} {tx : String} (hd : decode (xmb m) pc = .ok (.ldc idx, 2)) (hl : xstO[b]? = some (xmo m, idx, tx)) (k : Gx l E m R (pc + 2) M L (.ref (110 + b) :: st)) : Gx l E m R pc M L st := by
  intro pr e s mi args below meth c H locs ls C hP hD hS hL
  have k1 := k pr e s mi args below meth c H locs ls C hP hD hS hL
  rw [List.map_cons, xv_ref (show 110 + b ≠ 103 by omega)] at k1
  have hR : vk_R (xown (xmo m)) idx tx (xeA E (110 + b)) s := C.2.2.2.2.2.2.2.1.2.2.1 b (xmo m, idx, tx) hl
  exact va_ldcS (own := xown (xmo m)) (tx := tx) C.1 C.2.1 C.2.2.2.2.2.1 hR hd k1
theorem Gx_ldc2 {idx : Nat} (hd : decode (xmb m) pc = .ok (.ldc2_w idx, 3)) (hl : (xmo m, idx) = (3, 201) ∨ (xmo m, idx) = (4, 41)) (k : Gx l E m R (pc + 3) M L (.long 4000000000000000000 :: st)) : Gx l E m R pc M L st := by
  intro pr e s mi args below meth c H locs ls C hP hD hS hL
  have k1 := k pr e s mi args below meth c H locs ls C hP hD hS hL
  have hown := C.2.2.2.2.2.1
  rcases hl with hl | hl
  · obtain ⟨h1, rfl⟩ := Prod.mk.inj hl
    rw [h1] at hown
    exact lv_ldc2 C.1 C.2.1 hown (C.2.2.2.2.2.2.1 _ xlc_3) hd k1
  · obtain ⟨h1, rfl⟩ := Prod.mk.inj hl
    rw [h1] at hown
    exact lv_ldc2 C.1 C.2.1 hown (C.2.2.2.2.2.2.1 _ xlc_4) hd k1
end XM
