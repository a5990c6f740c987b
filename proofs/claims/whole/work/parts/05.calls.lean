/-! calls over the abstract machine -/
def xMok (m : xMt) (n : Nat) : Prop := Cond.code (xmy m) (xmb m) (xmn m) (xmr m) ∈ xTbl ∧ Cond.initialized (xmy m).cls ∈ xTbl ∧ ((xmy m).cls ≠ "java/lang/invoke/MethodHandle" ∧ (xmy m).cls ≠ "java/lang/invoke/VarHandle" ∧ (parseMethodDescriptor (xmy m).desc).map (fun d => d.parameters.length) = some n) ∧ xmn m ≤ 20
def xMv (m : xMt) : Prop := Cond.instanceMethod (xmy m) ∈ xTbl ∧ Cond.selects (xmy m).cls (xmy m) (xmy m) ∈ xTbl
theorem xWd_good {m : xMt} {n : Nat} (h : xMok m n) : GoodIn xTbl (xWd m) := by
  intro w hw
  rcases List.mem_cons.mp hw with rfl | hw
  · exact ⟨h.1, xTbl_good _ h.1⟩
  · exact ⟨hw, xTbl_good _ hw⟩
theorem x_room {d d' nL : Nat} (h : d' + 1 ≤ d) (hn : nL ≤ 20) : (xR d').frames + 1 ≤ (xR d).frames ∧ 8 + (nL + 11) + (xR d').locals ≤ (xR d).locals := by
  simp only [xR]
  omega
theorem xPre_blind {E : xE} {M : xM} {av : List Value} : FrameBlind (va_Pc av (xPre E M)) := by
  intro a U g mk q
  obtain ⟨q0, ⟨q1, q2⟩, ⟨q3, q4, q5⟩, q6⟩ := q
  exact ⟨q0, ⟨q1, q2⟩, ⟨va_K.moved (u := U) (U := U.calling g mk a) (Vm.Alike.refl U.vm) q3, xSta.moved (u := U) (U := U.calling g mk a) (Vm.Alike.refl U.vm) q4, xLnk.same (u := U) (U := U.calling g mk a) rfl q5⟩, q6⟩
theorem xPre_at {E : xE} {M : xM} {s U : State} {H : Heap} {locs : List Loc} (hK : xK E s s.heap) (hB : xeB E ≤ s.heap.size) (hP : va_P (xeD E) vwCl (xws E M) H) (hD : va_D (xA E) (xws E M)) (hS : va_S (xA E) s.heap H locs) (hU : U.heap = H) (hW : s.WarmedH U.vm) : xPre E M U := by
  subst hU
  exact ⟨⟨hP, hD⟩, ⟨va_K.moved hW.alike hK.1, (hK.2.1.kept hS.2.1).moved hW.alike, hK.2.2.warm hW⟩, Nat.le_trans hB hS.1⟩
section XC
variable {p : Program} {l : Launch} {e : Env} {Rm : Room} {s : State} {m : MethodId} {args : Array Value} {below : List Frame} {meth : Method} {c : Code} {H : Heap} {locs : List Loc} {Q : State → Prop} {pc : Nat} {ls : Array Slot} {rest st0 : List Value} {a : Array Value} {E : xE}
theorem x_call {R' : Option Value → xM → Prop} (hr : va_Run p l e Rm s m args below meth c H locs 0 0 0 0 (F0 m pc ls st0) rest (xQ E R' a) (xA E)) (hS : va_S (xA E) s.heap H locs)
    (kk : ∀ (r : Option Value) (M' : xM) (H1 : Heap) (locs1 : List Loc), R' r M' → va_P (xeD E) vwCl (xws E M') H1 → va_D (xA E) (xws E M') → va_S (xA E) s.heap H1 locs1 → W p l e Rm s m args below meth c H1 locs1 0 0 Q (F0 m (pc + 3) ls ((r.map (xv E)).toList ++ rest))) : W p l e Rm s m args below meth c H locs 0 0 Q (F0 m pc ls st0) := by
  intro T hT X
  obtain ⟨v, st₀, t, T', L, h0, X', hL, e1, e2, ⟨⟨r, M', hv, hp, hb⟩, hz, hk⟩, st⟩ := hr T hT X
  cases hv
  rw [h0] at hz hk
  obtain ⟨t2, a1, b1⟩ := kk r M' T'.heap (locs ++ L) hp (by rw [e1]; exact hb.1) hb.2
    ⟨Nat.le_trans hS.1 (by rw [e1]; exact hz), fun q h1 h2 => by rw [e1, hk q (Nat.lt_of_lt_of_le h1 hS.1) h2]; exact hS.2.1 q h1 h2, fun q hq => by
      rcases List.mem_append.mp hq with h | h
      · exact hS.2.2 q h
      · exact hL q h⟩ T' rfl X'
  exact ⟨t2, st t2 a1, b1⟩
end XC
section XR
variable {l : Launch} {E : xE} {m : xMt} {R : Option Value → xM → Prop} {pc : Nat} {M : xM} {L : List (Option Value)} {rest : List Value}
theorem x_rest {mi : MethodId} {ls : Array Slot} {st : List Value} {E : xE} (hS : xeS E = .null ∨ ∃ t, xeS E = .ref t) (h : (rest.map fun v => v.category).sum ≤ 8) : 2 * (F0 mi pc ls st).monitorRoom + ((rest.map (xv E)).map fun v => v.category).sum ≤ 8 := by
  apply lv_room
  rw [List.map_map]
  have e1 : ((fun v => v.category) ∘ xv E) = (fun v : Value => v.category) := funext fun v => xv_cat hS v
  rw [e1]
  exact h
theorem x_stackV {As : List Value} {q : Nat} (hq : q ≠ 103) : List.map (xv E) (As.reverse ++ .ref q :: rest) = (As.map (xv E)).reverse ++ .ref (xeA E q) :: rest.map (xv E) := by simp [xv_ref hq]
theorem x_stackS {As : List Value} : List.map (xv E) (As.reverse ++ rest) = (As.map (xv E)).reverse ++ rest.map (xv E) := by simp
/-- a call of a method of one of the system's objects, or of a string constant -/
theorem Gx_callR {mc : xMt} {n idx q : Nat} {As : List Value} {R' : Option Value → xM → Prop} (hd : decode (xmb m) pc = .ok (.invokevirtual idx, 3)) (hl : Cond.methodLink (xown (xmo m)) idx (xmy mc) ∈ xTbl) (hm : xMok mc n) (hv : xMv mc) (hn : As.length = n) (hdep : xmd mc + 1 ≤ xmd m) (hrest : (rest.map fun v => v.category).sum ≤ 8) (hq : q ≠ 103)
    (hrc : ∀ (s : State) (H : Heap) (locs : List Loc), xK E s s.heap → va_P (xeD E) vwCl (xws E M) H → va_S (xA E) s.heap H locs → ∃ cell : Cell, H[xeA E q]? = some cell ∧ cell.vm.isStatics = false ∧ s.vm.findClass (xmy mc).cls = some cell.cls)
    (hC : Ct l E mc (.ref q :: As) M R') (k : ∀ r M', R' r M' → Gx l E m R (pc + 3) M' L (r.toList ++ rest)) : Gx l E m R pc M L (As.reverse ++ .ref q :: rest) := by
  intro p e s mi args below meth c H locs ls C hP hD hS hL
  have C0 := C
  obtain ⟨hx, hb, hml, hrt, hlk, hown, hts, hK, hB⟩ := C
  have hSi := hK.2.1.2.2.2.2.2.2.1
  rw [x_stackV hq]
  refine x_call (va_runV (own := xown (xmo m)) (C := (xmy mc).cls) (As := As.map (xv E)) (rest := rest.map (xv E)) (b := xeA E q) (ws := xWd mc) (rm := xR (xmd mc)) (Ts := xTbl) ⟨hx, hb, hml, hown, hts⟩ hC ⟨callB_of n hts (xWd_good hm) rfl rfl rfl (hts _ hm.2.1) (hts _ hl) hm.2.2.1 (x_room hdep hm.2.2.2), hts _ hv.1, hts _ hv.2⟩ ⟨xPre_blind, hrc s H locs hK hP hS, fun U hU hW => ⟨by simp [xv_ref hq], xPre_at hK hB hP hD hS hU hW⟩⟩ rfl (by rw [List.length_map]; exact hn) hL.2.1 rfl (x_rest hSi hrest) hd ⟨Nat.zero_le _, Nat.zero_le _⟩) hS (fun r M' H1 locs1 hR hP1 hD1 hS1 => ?_)
  have := k r M' hR p e s mi args below meth c H1 locs1 ls C0 hP1 hD1 hS1 hL
  rw [List.map_append] at this
  have e1 : List.map (xv E) r.toList = (r.map (xv E)).toList := by cases r <;> rfl
  rw [e1] at this
  exact this
theorem Gx_callV {mc : xMt} {n idx q ci : Nat} {rc : vw_C} {As : List Value} {R' : Option Value → xM → Prop} (hd : decode (xmb m) pc = .ok (.invokevirtual idx, 3)) (hl : Cond.methodLink (xown (xmo m)) idx (xmy mc) ∈ xTbl) (hm : xMok mc n) (hv : xMv mc) (hn : As.length = n) (hdep : xmd mc + 1 ≤ xmd m) (hrest : (rest.map fun v => v.category).sum ≤ 8)
    (hk : xkd q = ci) (hc : vwCl[ci]? = some rc) (he : rc.1 = (xmy mc).cls)
    (hC : Ct l E mc (.ref q :: As) M R') (k : ∀ r M', R' r M' → Gx l E m R (pc + 3) M' L (r.toList ++ rest)) : Gx l E m R pc M L (As.reverse ++ .ref q :: rest) := by
  have hci : ci < 5 := (List.getElem?_eq_some_iff.mp hc).1
  have hq : q < 60 := xkd_lt (by omega)
  refine Gx_callR hd hl hm hv hn hdep hrest (by omega) (fun s H locs hK hP hS => ?_) hC k
  have h1 := xws_get E M hq
  rw [xcell_obj E M hk (by omega)] at h1
  have h2 := va_recv hK.1 hP hc h1
  rw [he] at h2
  exact h2
theorem Gx_callT {mc : xMt} {n idx i : Nat} {As : List Value} {R' : Option Value → xM → Prop} (hd : decode (xmb m) pc = .ok (.invokevirtual idx, 3)) (hl : Cond.methodLink (xown (xmo m)) idx (xmy mc) ∈ xTbl) (hm : xMok mc n) (hv : xMv mc) (hn : As.length = n) (hdep : xmd mc + 1 ≤ xmd m) (hrest : (rest.map fun v => v.category).sum ≤ 8)
    (hi : i < 9) (he : (xmy mc).cls = "java/lang/String")
    (hC : Ct l E mc (.ref (110 + i) :: As) M R') (k : ∀ r M', R' r M' → Gx l E m R (pc + 3) M' L (r.toList ++ rest)) : Gx l E m R pc M L (As.reverse ++ .ref (110 + i) :: rest) := by
  refine Gx_callR hd hl hm hv hn hdep hrest (by omega) (fun s H locs hK hP hS => ?_) hC k
  obtain ⟨cell, h1, h2, h3, -⟩ := (hK.2.1.2.2.2.2.2.2.2 i hi).1.kept hS.2.1
  exact ⟨cell, h1, h2, he ▸ h3⟩
theorem Gx_callS {mc : xMt} {n idx : Nat} {As : List Value} {R' : Option Value → xM → Prop} (hd : decode (xmb m) pc = .ok (.invokestatic idx, 3)) (hl : Cond.methodLink (xown (xmo m)) idx (xmy mc) ∈ xTbl) (hm : xMok mc n) (hv : Cond.static (xmy mc) ∈ xTbl) (hn : As.length = n) (hdep : xmd mc + 1 ≤ xmd m) (hrest : (rest.map fun v => v.category).sum ≤ 8)
    (hC : Ct l E mc As M R') (k : ∀ r M', R' r M' → Gx l E m R (pc + 3) M' L (r.toList ++ rest)) : Gx l E m R pc M L (As.reverse ++ rest) := by
  intro p e s mi args below meth c H locs ls C hP hD hS hL
  have C0 := C
  obtain ⟨hx, hb, hml, hrt, hlk, hown, hts, hK, hB⟩ := C
  have hSi := hK.2.1.2.2.2.2.2.2.1
  rw [x_stackS]
  refine x_call (va_runS (own := xown (xmo m)) (As := As.map (xv E)) (rest := rest.map (xv E)) (ws := xWd mc) (rm := xR (xmd mc)) (Ts := xTbl) ⟨hx, hb, hml, hown, hts⟩ hC ⟨callB_of n hts (xWd_good hm) rfl rfl rfl (hts _ hm.2.1) (hts _ hl) hm.2.2.1 (x_room hdep hm.2.2.2), hts _ hv⟩ ⟨xPre_blind, fun U hU hW => ⟨rfl, xPre_at hK hB hP hD hS hU hW⟩⟩ rfl (by rw [List.length_map]; exact hn) hL.2.1 rfl (x_rest hSi hrest) hd ⟨Nat.zero_le _, Nat.zero_le _⟩) hS (fun r M' H1 locs1 hR hP1 hD1 hS1 => ?_)
  have := k r M' hR p e s mi args below meth c H1 locs1 ls C0 hP1 hD1 hS1 hL
  rw [List.map_append] at this
  have e1 : List.map (xv E) r.toList = (r.map (xv E)).toList := by cases r <;> rfl
  rw [e1] at this
  exact this
/-- a call of the class's isOutside out of Volume -/
theorem Gx_callN {mc : xMt} {n : Nat} {As : List Value} {R' : Option Value → xM → Prop} (hd : decode (xmb m) pc = .ok (.invokestatic 53, 3)) (ho : xmo m = 2) (hy : xmy mc = yX3_isOutside) (hm : xMok mc n) (hv : Cond.static (xmy mc) ∈ xTbl) (hn : As.length = n) (hdep : xmd mc + 1 ≤ xmd m) (hrest : (rest.map fun v => v.category).sum ≤ 8)
    (hC : Ct l E mc As M R') (k : ∀ r M', R' r M' → Gx l E m R (pc + 3) M' L (r.toList ++ rest)) : Gx l E m R pc M L (As.reverse ++ rest) := by
  intro p e s mi args below meth c H locs ls C hP hD hS hL
  have C0 := C
  obtain ⟨hx, hb, hml, hrt, hlk, hown, hts, hK, hB⟩ := C
  have hSi := hK.2.1.2.2.2.2.2.2.1
  rw [x_stackS]
  have hl : va_Nw (.methodLinkNest RX2 53 (xmy mc) RX3) s := by rw [hy]; exact hK.2.2.2.2.2.2
  have hown2 : s.vm.findClass RX2 = some mi.cls := by rw [ho] at hown; exact hown
  refine x_call (va_runSN (own := RX2) (host := RX3) (As := As.map (xv E)) (rest := rest.map (xv E)) (ws := xWd mc) (rm := xR (xmd mc)) (Ts := xTbl) ⟨hx, hb, hml, hown2, hts⟩ hC ⟨va_cnB n hts (xWd_good hm) rfl rfl rfl hl (hts _ hm.2.1) hm.2.2.1 (x_room hdep hm.2.2.2), hts _ hv, trivial⟩ ⟨xPre_blind, fun U hU hW => ⟨rfl, xPre_at hK hB hP hD hS hU hW⟩⟩ rfl (by rw [List.length_map]; exact hn) hL.2.1 rfl (x_rest hSi hrest) hd ⟨Nat.zero_le _, Nat.zero_le _⟩) hS (fun r M' H1 locs1 hR hP1 hD1 hS1 => ?_)
  have := k r M' hR p e s mi args below meth c H1 locs1 ls C0 hP1 hD1 hS1 hL
  rw [List.map_append] at this
  have e1 : List.map (xv E) r.toList = (r.map (xv E)).toList := by cases r <;> rfl
  rw [e1] at this
  exact this
/-- System.arraycopy of a whole row's begin -/
theorem Gx_copy {idx q1 q0 : Nat} {sp dp n : Int32} (hd : decode (xmb m) pc = .ok (.invokestatic idx, 3)) (hl : Cond.methodLink (xown (xmo m)) idx arraycopyName ∈ xTbl) (hnat : Cond.native arraycopyName ∈ xTbl) (hst : Cond.static arraycopyName ∈ xTbl) (hini : Cond.initialized "java/lang/System" ∈ xTbl) (hdep : 1 ≤ xmd m) (hrest : (rest.map fun v => v.category).sum ≤ 8)
    (k0 : xkd q0 = 5) (k1 : xkd q1 = 5) (h1 : ¬ sp < 0) (h2 : ¬ dp < 0) (h3 : ¬ n < 0) (h4 : sp.toNatClampNeg + n.toNatClampNeg ≤ xln q0) (h5 : dp.toNatClampNeg + n.toNatClampNeg ≤ xln q1)
    (k : Gx l E m R (pc + 3) (fun a => if a = q1 then va_cpy (M q0) (M q1) sp.toNatClampNeg dp.toNatClampNeg n.toNatClampNeg else M a) L rest) : Gx l E m R pc M L (.int n :: .int dp :: .ref q1 :: .int sp :: .ref q0 :: rest) := by
  intro p e s mi args below meth c H locs ls C hP hD hS hL
  have C0 := C
  obtain ⟨hx, hb, hml, hrt, hlk, hown, hts, hK, hB⟩ := C
  have hSi := hK.2.1.2.2.2.2.2.2.1
  have hq0 : q0 < 60 := xkd_lt (by omega)
  have hq1 : q1 < 60 := xkd_lt (by omega)
  have e1 : List.map (xv E) (.int n :: .int dp :: .ref q1 :: .int sp :: .ref q0 :: rest) = .int n :: .int dp :: .ref (xeA E q1) :: .int sp :: .ref (xeA E q0) :: rest.map (xv E) := by
    simp [xv_int, xv_ref (E := E) (show q0 ≠ 103 by omega), xv_ref (E := E) (show q1 ≠ 103 by omega)]
  rw [e1]
  have g0 := xws_get E M hq0
  have g1 := xws_get E M hq1
  rw [xcell_row E M k0] at g0
  rw [xcell_row E M k1] at g1
  have hsum : ((rest.map (xv E)).map fun v => v.category).sum ≤ 8 := by
    have := x_rest (rest := rest) (pc := 0) (mi := mi) (ls := #[]) (st := []) hSi hrest
    omega
  refine va_copyi hx hb (hml.trans hL.2.1.symm) hown (hts _ hl) (hts _ hnat) (hts _ hst) (hts _ hini) hK.1 hP hD hS q0 q1 0 0 g0 g1 rfl rfl rfl h1 h2 h3 h4 h5 (fun i _ => rfl) hdep ?_ hd (fun H1 locs1 hP1 hD1 hS1 => ?_)
  · have : nativeFrameWords "java/lang/System" "arraycopy" 5 ≤ 20 := by decide +kernel
    simp only [xR]
    omega
  · rw [xws_set E M (fun a => if a = q1 then va_cpy (M q0) (M q1) sp.toNatClampNeg dp.toNatClampNeg n.toNatClampNeg else M a) hq1 (fun a ha => by simp [ha]) (by rw [xcell_row E _ k1]; simp)] at hP1 hD1
    exact k p e s mi args below meth c H1 locs1 ls C0 hP1 hD1 hS1 hL
end XR
