/-! kinds of places; what a walk's result says; forgetting locals; switches -/
def xVol (v : Nat) : Prop := v = 1 ∨ v = 8 ∨ v = 15 ∨ v = 23 ∨ v = 35
def xChk (c : Nat) : Prop := c = 22 ∨ c = 34
def xRow (q : Nat) : Prop := xkd q = 5
def xStp (t : Nat) : Prop := 110 ≤ t ∧ t < 119
def xByt (t : Nat) : Prop := 130 ≤ t ∧ t < 139
def xAny (_ : Nat) : Prop := True
theorem xVol_0 {v : Nat} (h : xVol v) : xkd (v + 0) = 2 := by rcases h with rfl | rfl | rfl | rfl | rfl <;> rfl
theorem xVol_1 {v : Nat} (h : xVol v) : xkd (v + 1) = 5 := by rcases h with rfl | rfl | rfl | rfl | rfl <;> rfl
theorem xVol_l1 {v : Nat} (h : xVol v) : xln (v + 1) = 10 := by rcases h with rfl | rfl | rfl | rfl | rfl <;> rfl
theorem xVol_2 {v : Nat} (h : xVol v) : xkd (v + 2) = 5 := by rcases h with rfl | rfl | rfl | rfl | rfl <;> rfl
theorem xVol_l2 {v : Nat} (h : xVol v) : xln (v + 2) = 10 := by rcases h with rfl | rfl | rfl | rfl | rfl <;> rfl
theorem xVol_3 {v : Nat} (h : xVol v) : xkd (v + 3) = 5 := by rcases h with rfl | rfl | rfl | rfl | rfl <;> rfl
theorem xVol_l3 {v : Nat} (h : xVol v) : xln (v + 3) = 10 := by rcases h with rfl | rfl | rfl | rfl | rfl <;> rfl
theorem xVol_4 {v : Nat} (h : xVol v) : xkd (v + 4) = 5 := by rcases h with rfl | rfl | rfl | rfl | rfl <;> rfl
theorem xVol_l4 {v : Nat} (h : xVol v) : xln (v + 4) = 30 := by rcases h with rfl | rfl | rfl | rfl | rfl <;> rfl
theorem xVol_5 {v : Nat} (h : xVol v) : xkd (v + 5) = 5 := by rcases h with rfl | rfl | rfl | rfl | rfl <;> rfl
theorem xVol_l5 {v : Nat} (h : xVol v) : xln (v + 5) = 60 := by rcases h with rfl | rfl | rfl | rfl | rfl <;> rfl
theorem xVol_6 {v : Nat} (h : xVol v) : xkd (v + 6) = 5 := by rcases h with rfl | rfl | rfl | rfl | rfl <;> rfl
theorem xVol_l6 {v : Nat} (h : xVol v) : xln (v + 6) = 24 := by rcases h with rfl | rfl | rfl | rfl | rfl <;> rfl
theorem xVol_ne {v : Nat} (h : xVol v) : v ≠ 103 := by rcases h with rfl | rfl | rfl | rfl | rfl <;> decide
theorem xChk_0 {c : Nat} (h : xChk c) : xkd (c + 0) = 0 := by rcases h with rfl | rfl <;> rfl
theorem xChk_1 {c : Nat} (h : xChk c) : xkd (c + 1) = 2 := by rcases h with rfl | rfl <;> rfl
theorem xChk_2 {c : Nat} (h : xChk c) : xkd (c + 2) = 5 := by rcases h with rfl | rfl <;> rfl
theorem xChk_l2 {c : Nat} (h : xChk c) : xln (c + 2) = 10 := by rcases h with rfl | rfl <;> rfl
theorem xChk_3 {c : Nat} (h : xChk c) : xkd (c + 3) = 5 := by rcases h with rfl | rfl <;> rfl
theorem xChk_l3 {c : Nat} (h : xChk c) : xln (c + 3) = 10 := by rcases h with rfl | rfl <;> rfl
theorem xChk_4 {c : Nat} (h : xChk c) : xkd (c + 4) = 5 := by rcases h with rfl | rfl <;> rfl
theorem xChk_l4 {c : Nat} (h : xChk c) : xln (c + 4) = 10 := by rcases h with rfl | rfl <;> rfl
theorem xChk_5 {c : Nat} (h : xChk c) : xkd (c + 5) = 5 := by rcases h with rfl | rfl <;> rfl
theorem xChk_l5 {c : Nat} (h : xChk c) : xln (c + 5) = 30 := by rcases h with rfl | rfl <;> rfl
theorem xChk_6 {c : Nat} (h : xChk c) : xkd (c + 6) = 5 := by rcases h with rfl | rfl <;> rfl
theorem xChk_l6 {c : Nat} (h : xChk c) : xln (c + 6) = 60 := by rcases h with rfl | rfl <;> rfl
theorem xChk_7 {c : Nat} (h : xChk c) : xkd (c + 7) = 5 := by rcases h with rfl | rfl <;> rfl
theorem xChk_l7 {c : Nat} (h : xChk c) : xln (c + 7) = 24 := by rcases h with rfl | rfl <;> rfl
theorem xChk_8 {c : Nat} (h : xChk c) : xkd (c + 8) = 5 := by rcases h with rfl | rfl <;> rfl
theorem xChk_l8 {c : Nat} (h : xChk c) : xln (c + 8) = 180 := by rcases h with rfl | rfl <;> rfl
theorem xChk_9 {c : Nat} (h : xChk c) : xkd (c + 9) = 5 := by rcases h with rfl | rfl <;> rfl
theorem xChk_l9 {c : Nat} (h : xChk c) : xln (c + 9) = 180 := by rcases h with rfl | rfl <;> rfl
theorem xChk_10 {c : Nat} (h : xChk c) : xkd (c + 10) = 5 := by rcases h with rfl | rfl <;> rfl
theorem xChk_l10 {c : Nat} (h : xChk c) : xln (c + 10) = 180 := by rcases h with rfl | rfl <;> rfl
theorem xChk_11 {c : Nat} (h : xChk c) : xkd (c + 11) = 5 := by rcases h with rfl | rfl <;> rfl
theorem xChk_l11 {c : Nat} (h : xChk c) : xln (c + 11) = 10 := by rcases h with rfl | rfl <;> rfl
theorem xChk_ne {c : Nat} (h : xChk c) : c ≠ 103 := by rcases h with rfl | rfl <;> decide
theorem xChk_v {c : Nat} (h : xChk c) : xVol (c + 1) := by rcases h with rfl | rfl <;> simp [xVol]
theorem xVol_at1 : xVol 1 := by simp [xVol]
theorem xVol_at8 : xVol 8 := by simp [xVol]
theorem xVol_at15 : xVol 15 := by simp [xVol]
theorem xVol_at23 : xVol 23 := by simp [xVol]
theorem xVol_at35 : xVol 35 := by simp [xVol]
theorem xChk_at22 : xChk 22 := by simp [xChk]
theorem xChk_at34 : xChk 34 := by simp [xChk]
theorem xByt_of {t : Nat} (h : xStp t) : xByt (t + 20) := by unfold xStp at h; unfold xByt; omega
def xRi (Q : Int32 → xM → Prop) : Option Value → xM → Prop := fun r M => ∃ x, r = some (.int x) ∧ Q x M
def xRj (Q : Int64 → xM → Prop) : Option Value → xM → Prop := fun r M => ∃ x, r = some (.long x) ∧ Q x M
def xRa (Q : Nat → xM → Prop) : Option Value → xM → Prop := fun r M => ∃ x : Nat, r = some (.ref x) ∧ Q x M
def xRv (Q : xM → Prop) : Option Value → xM → Prop := fun r M => r = none ∧ Q M
def xmask : List Bool → List (Option Value) → List (Option Value)
  | b :: bs, v :: vs => (if b = true then v else none) :: xmask bs vs
  | _, vs => vs
theorem xmask_at {bs : List Bool} {L : List (Option Value)} {i : Nat} {v : Value} (h : (xmask bs L)[i]? = some (some v)) : L[i]? = some (some v) := by
  induction bs generalizing L i with
  | nil => simpa [xmask] using h
  | cons b bs ih =>
    cases L with
    | nil => simpa [xmask] using h
    | cons w L =>
      unfold xmask at h
      cases i with
      | zero =>
        simp only [List.getElem?_cons_zero, Option.some.injEq] at h ⊢
        split at h
        · exact h
        · cases h
      | succ i =>
        simp only [List.getElem?_cons_succ] at h ⊢
        exact ih h
theorem xmask_len {bs : List Bool} {L : List (Option Value)} : (xmask bs L).length = L.length := by
  induction bs generalizing L with
  | nil => rfl
  | cons b bs ih =>
    cases L with
    | nil => rfl
    | cons w L => simp [xmask, ih]
section XG
variable {l : Launch} {E : xE} {m : xMt} {R : Option Value → xM → Prop} {pc : Nat} {M : xM} {L L' : List (Option Value)} {st rest : List Value}
theorem Gx_mask (bs : List Bool) (h : xmask bs L = L') (k : Gx l E m R pc M L' st) : Gx l E m R pc M L st := by
  subst h
  intro p e s mi args below meth c H locs ls C hP hD hS hL
  exact k p e s mi args below meth c H locs ls C hP hD hS ⟨by rw [xmask_len]; exact hL.1, hL.2.1, hL.2.2.1, fun i v h => hL.2.2.2 i v (xmask_at h)⟩
theorem Gx_tabAt {dflt lo hi : Int} {offs : Array Int} {len : Nat} {x c : Int32} {off : Int} {tgt : Nat} (hx : x = c) (hd : decode (xmb m) pc = .ok (.tableswitch dflt lo hi offs, len)) (h1 : ¬ c.toInt < lo) (h2 : ¬ hi < c.toInt) (ho : offs[(c.toInt - lo).toNat]? = some off) (ht : (pc : Int) + off = (tgt : Int)) (k : Gx l E m R tgt M L st) : Gx l E m R pc M L (.int x :: st) := by
  subst hx
  exact Gx_tableIn hd h1 h2 ho ht k
theorem Gx_lookAt {dflt : Int} {ps : Array (Int × Int)} {len : Nat} {x c : Int32} {off : Int} {tgt : Nat} (hx : x = c) (hd : decode (xmb m) pc = .ok (.lookupswitch dflt ps, len)) (hp : (ps.toList.zip (ps.toList.drop 1)).all (fun (a, next) => a.1 < next.1) = true) (ho : Op.lookupswitch.offset ps.toList dflt c.toInt = off) (ht : (pc : Int) + off = (tgt : Int)) (k : Gx l E m R tgt M L st) : Gx l E m R pc M L (.int x :: st) := by
  subst hx
  exact Gx_lookup hd hp ho ht k
theorem Gx_callTp {mc : xMt} {n idx q : Nat} {As : List Value} {R' : Option Value → xM → Prop} (hd : decode (xmb m) pc = .ok (.invokevirtual idx, 3)) (hl : Cond.methodLink (xown (xmo m)) idx (xmy mc) ∈ xTbl) (hm : xMok mc n) (hv : xMv mc) (hn : As.length = n) (hdep : xmd mc + 1 ≤ xmd m) (hrest : (rest.map fun v => v.category).sum ≤ 8)
    (hq : xStp q) (he : (xmy mc).cls = "java/lang/String")
    (hC : Ct l E mc (.ref q :: As) M R') (k : ∀ r M', R' r M' → Gx l E m R (pc + 3) M' L (r.toList ++ rest)) : Gx l E m R pc M L (As.reverse ++ .ref q :: rest) := by
  obtain ⟨h1, h2⟩ := hq
  obtain ⟨i, rfl⟩ : ∃ i, q = 110 + i := ⟨q - 110, by omega⟩
  exact Gx_callT hd hl hm hv hn hdep hrest (by omega) he hC k
theorem xmm_max : Cond.static Lib.Math.max.name ∈ xTbl ∧ Cond.initialized "java/lang/Math" ∈ xTbl ∧ Cond.code Lib.Math.max.name Lib.Math.max.code 2 (some .int) ∈ xTbl := ⟨xTbl_in 296 (by decide +kernel) rfl, xTbl_in 80 (by decide +kernel) rfl, xTbl_in 297 (by decide +kernel) rfl⟩
theorem Gx_mmax {idx : Nat} {x y : Int32} (hd : decode (xmb m) pc = .ok (.invokestatic idx, 3)) (hl : Cond.methodLink (xown (xmo m)) idx Lib.Math.max.name ∈ xTbl) (hdep : 1 ≤ xmd m) (hrest : (rest.map fun v => v.category).sum ≤ 8) (k : Gx l E m R (pc + 3) M L (.int (if x < y then y else x) :: rest)) : Gx l E m R pc M L (.int y :: .int x :: rest) := by
  intro p e s mi args below meth c H locs ls C hP hD hS hL
  have C0 := C
  obtain ⟨hx, hb, hml, hrt, hlk, hown, hts, hK, hB⟩ := C
  have hSi := hK.2.1.2.2.2.2.2.2.1
  have hsum : ((rest.map (xv E)).map fun v => v.category).sum ≤ 8 := by
    have := x_rest (rest := rest) (pc := 0) (mi := mi) (ls := #[]) (st := []) hSi hrest
    omega
  exact va_mmax hx hb (hml.trans hL.2.1.symm) hown (hts _ hl) (hts _ xmm_max.1) (hts _ xmm_max.2.1) (hts _ xmm_max.2.2) hdep (by simp only [xR]; omega) (Nat.zero_le _) (Nat.zero_le _) hd (k p e s mi args below meth c H locs ls C0 hP hD hS hL)
theorem xmm_min : Cond.static Lib.Math.min.name ∈ xTbl ∧ Cond.initialized "java/lang/Math" ∈ xTbl ∧ Cond.code Lib.Math.min.name Lib.Math.min.code 2 (some .int) ∈ xTbl := ⟨xTbl_in 299 (by decide +kernel) rfl, xTbl_in 80 (by decide +kernel) rfl, xTbl_in 300 (by decide +kernel) rfl⟩
theorem Gx_mmin {idx : Nat} {x y : Int32} (hd : decode (xmb m) pc = .ok (.invokestatic idx, 3)) (hl : Cond.methodLink (xown (xmo m)) idx Lib.Math.min.name ∈ xTbl) (hdep : 1 ≤ xmd m) (hrest : (rest.map fun v => v.category).sum ≤ 8) (k : Gx l E m R (pc + 3) M L (.int (if y < x then y else x) :: rest)) : Gx l E m R pc M L (.int y :: .int x :: rest) := by
  intro p e s mi args below meth c H locs ls C hP hD hS hL
  have C0 := C
  obtain ⟨hx, hb, hml, hrt, hlk, hown, hts, hK, hB⟩ := C
  have hSi := hK.2.1.2.2.2.2.2.2.1
  have hsum : ((rest.map (xv E)).map fun v => v.category).sum ≤ 8 := by
    have := x_rest (rest := rest) (pc := 0) (mi := mi) (ls := #[]) (st := []) hSi hrest
    omega
  exact va_mmin hx hb (hml.trans hL.2.1.symm) hown (hts _ hl) (hts _ xmm_min.1) (hts _ xmm_min.2.1) (hts _ xmm_min.2.2) hdep (by simp only [xR]; omega) (Nat.zero_le _) (Nat.zero_le _) hd (k p e s mi args below meth c H locs ls C0 hP hD hS hL)
theorem xmm_lmax : Cond.static Lib.MathLoose.max_long.x ∈ xTbl ∧ Cond.initialized "java/lang/Math" ∈ xTbl ∧ Cond.code Lib.MathLoose.max_long.x Lib.MathLoose.max_long.code 4 (some .long) ∈ xTbl := ⟨xTbl_in 745 (by decide +kernel) rfl, xTbl_in 80 (by decide +kernel) rfl, xTbl_in 746 (by decide +kernel) rfl⟩
theorem Gx_mlmax {idx : Nat} {x y : Int64} (hd : decode (xmb m) pc = .ok (.invokestatic idx, 3)) (hl : Cond.methodLink (xown (xmo m)) idx Lib.MathLoose.max_long.x ∈ xTbl) (hdep : 1 ≤ xmd m) (hrest : (rest.map fun v => v.category).sum ≤ 8) (k : Gx l E m R (pc + 3) M L (.long (if y < x then x else y) :: rest)) : Gx l E m R pc M L (.long y :: .long x :: rest) := by
  intro p e s mi args below meth c H locs ls C hP hD hS hL
  have C0 := C
  obtain ⟨hx, hb, hml, hrt, hlk, hown, hts, hK, hB⟩ := C
  have hSi := hK.2.1.2.2.2.2.2.2.1
  have hsum : ((rest.map (xv E)).map fun v => v.category).sum ≤ 8 := by
    have := x_rest (rest := rest) (pc := 0) (mi := mi) (ls := #[]) (st := []) hSi hrest
    omega
  exact va_mmax_long hx hb (hml.trans hL.2.1.symm) hown (hts _ hl) (hts _ xmm_lmax.1) (hts _ xmm_lmax.2.1) (hts _ xmm_lmax.2.2) hdep (by simp only [xR]; omega) (Nat.zero_le _) (Nat.zero_le _) hd (k p e s mi args below meth c H locs ls C0 hP hD hS hL)
end XG
