/-! constructors: worlds that grow -/
def yNs (U : State) : Prop := va_Nw (.methodLinkNest RX3 32 yX0_init RX3) U ∧ va_Nw (.methodLinkNest RX3 42 yX1_init RX3) U
theorem yNs.same {u U : State} (hv : U.vm = u.vm) (h : yNs u) : yNs U := ⟨va_Nw.same rfl hv.symm h.1, va_Nw.same rfl hv.symm h.2⟩
theorem yNs.warm {s U : State} (hW : s.WarmedH U.vm) (h : yNs s) : yNs U := ⟨va_Nw.warmM hW h.1, va_Nw.warmM hW h.2⟩
def yKo (D : va_G) (cI : ClassId) (U : State) : Prop := va_K D vwCl [(cI, .int)] U ∧ yNs U
def yR (d k n : Nat) : Room := { frames := d, cells := k, slots := n, locals := 39 * d }
def yPre (D : va_G) (cI : ClassId) (ws : va_W) (sz : Nat) (U : State) : Prop := U.heap.size = sz ∧ va_P D vwCl ws U.heap ∧ va_D (fun _ => True) ws ∧ yKo D cI U
def yEnd (D : va_G) (A : Nat → Prop) (R : va_W → Prop) : Array Value → State → Outcome → State → Prop := va_Qv R (fun w U => va_P D vwCl w U.heap ∧ va_D A w) A
def yMet (l : Launch) (D : va_G) (cI : ClassId) (m : xMt) (args : List Value) (ws : va_W) (k n : Nat) (R : va_W → Prop) : Prop := ∀ sz, Met l (xmy m) (xWd m) (yR (xmd m) k n) (va_Pc args (yPre D cI ws sz)) (yEnd D (va_A ws sz) R) k n (va_A ws sz)
def yCtx (m : xMt) (D : va_G) (cI : ClassId) (p : Program) (s : State) (mi : MethodId) (args : Array Value) (meth : Method) (c : Code) : Prop := p.tables.exec = Jvm.exec ∧ c.code = xmb m ∧ c.maxLocals = xmn m ∧ meth.sig.returnType = none ∧ meth.locks = false ∧ s.vm.findClass (xown (xmo m)) = some mi.cls ∧ (∀ w ∈ xTbl, w.before args s = true) ∧ yKo D cI s ∧ meth.name = (xmy m).name
def Gy (l : Launch) (D : va_G) (cI : ClassId) (m : xMt) (A : Nat → Prop) (R : va_W → Prop) (k n pc : Nat) (ws : va_W) (a b : Nat) (lv : List (Nat × Value)) (st : List Value) : Prop :=
  ∀ (p : Program) (e : Env) (s : State) (mi : MethodId) (args : Array Value) (below : List Frame) (meth : Method) (c : Code) (H : Heap) (locs : List Loc) (ls : Array Slot),
    yCtx m D cI p s mi args meth c → (∀ q : Nat, s.heap.size ≤ q → A q) → va_P D vwCl ws H → va_D A ws → va_S A s.heap H locs → lv_has ls (xmn m) lv →
    W p l e (yR (xmd m) k n) s mi args below meth c H locs a b (MQ below (yEnd D A R) args s k n A) (F0 mi pc ls st)
/-- a class of the world: its place, name, fields, types -/
def yCls (ci : Nat) (C : String) (T : u_T) (N : Nat) (ty : Nat → FieldType) : Prop := vwCl[ci]? = some (C, T, N) ∧ (∀ w ∈ u_ws C T N, w ∈ xTbl) ∧ (∀ k, k < N → parseFieldDescriptor (T k).2.2.1 = some (ty k)) ∧ ∀ a, a < N → ∀ b, b < N → a ≠ b → (T a).2.1 ≠ (T b).2.1
theorem yc0 : yCls 0 RX0 TX0 7 tyX0 := ⟨rfl, xly_0, tyX0_ok, nmX0⟩
theorem yc1 : yCls 1 RX1 TX1 2 tyX1 := ⟨rfl, xly_1, tyX1_ok, nmX1⟩
theorem yc2 : yCls 2 RX2 TX2 8 tyX2 := ⟨rfl, xly_2, tyX2_ok, nmX2⟩
theorem yc3 : yCls 3 RX3 TX3 13 tyX3 := ⟨rfl, xly_3, tyX3_ok, nmX3⟩
theorem yc4 : yCls 4 RX4 TX4 18 tyX4 := ⟨rfl, xly_4, tyX4_ok, nmX4⟩
theorem yw_arr : Cond.arrayClass .int ∈ xTbl := xTbl_in 144 (by decide +kernel) rfl
theorem yw_obj : Cond.instanceMethod objectInit ∈ xTbl ∧ Cond.code objectInit ⟨#[0xb1]⟩ 1 none ∈ xTbl := ⟨xTbl_in 92 (by decide +kernel) rfl, xTbl_in 93 (by decide +kernel) rfl⟩
-- joining
theorem nd_of : ∀ {l : List Nat}, l.Nodup → va_nd l = true
  | [], _ => rfl
  | a :: l, h => by
    rw [List.nodup_cons] at h
    unfold va_nd
    rw [decide_eq_true h.1, nd_of h.2]; rfl
theorem y_pre {α : Type} (ws : List α) (x : α) : (List.range ws.length).map (fun i => (ws ++ [x])[i]?) = ws.map some := by
  apply List.ext_getElem?
  intro i
  by_cases h : i < ws.length
  · simp [h, List.getElem?_append_left h]
  · simp [List.getElem?_eq_none (l := ws) (i := i) (by omega), h]
theorem y_join {A0 : Nat → Prop} {D : va_G} {ws w1 : va_W} {x : Nat × va_E} {H H1 : Heap} (hP : va_P D vwCl (ws ++ [x]) H) (hD : va_D A0 (ws ++ [x])) (hk : ∀ q : Nat, q < H.size → ¬ va_A [x] H.size q → H1[q]? = H[q]?) (hF : ∀ q, va_A [x] H.size q → A0 q) (hP1 : va_P D vwCl w1 H1) (hD1 : va_D (va_A [x] H.size) w1) : va_P D vwCl (ws ++ w1) H1 ∧ va_D A0 (ws ++ w1) :=
  va_join hP hD [ws.length] (List.range ws.length) (by simp) (y_pre ws x) (nd_of List.nodup_range) (fun i hi => by
    rw [List.mem_range] at hi
    rw [List.mem_singleton]; omega) hk hF hP1 hD1
theorem y_set {A0 : Nat → Prop} {D : va_G} {ws : va_W} {q0 q : Nat} {e0 e : va_E} {H H1 : Heap} (hP : va_P D vwCl ws H) (hD : va_D A0 ws) (hq : ws[q0]? = some (q, e0)) (hk : ∀ x : Nat, x < H.size → ¬ va_A [(q, e0)] H.size x → H1[x]? = H[x]?) (h1 : va_at D vwCl (q, e) H1) : va_P D vwCl (ws.set q0 (q, e)) H1 ∧ va_D A0 (ws.set q0 (q, e)) := by
  have hl := (List.getElem?_eq_some_iff.mp hq).1
  refine ⟨fun k x hx => ?_, hD.set hq⟩
  by_cases hkp : k = q0
  · subst hkp
    rw [List.getElem?_set_self hl] at hx
    cases hx
    exact h1
  · rw [List.getElem?_set_ne (Ne.symm hkp)] at hx
    refine (hP k x hx).kept (hk x.1 (hP k x hx).lt (fun z => ?_))
    rcases z with ⟨i, e1, z⟩ | z
    · have hz : i < 1 := (List.getElem?_eq_some_iff.mp z).1
      rw [show i = 0 by omega] at z
      have z2 : (q, e0) = (x.1, e1) := Option.some.inj z
      exact hkp (hD.1 k q0 x (q, e0) hx hq (by rw [z2]))
    · exact absurd (hP k x hx).lt (Nat.not_lt.mpr z)
section Y2
variable {l : Launch} {D : va_G} {cI : ClassId} {m : xMt} {A : Nat → Prop} {R : va_W → Prop} {k n pc : Nat} {ws : va_W} {a b : Nat} {lv : List (Nat × Value)} {st : List Value}
theorem yMet_of {args : List Value} (hy : plainName (xmy m).cls = true) (ho : (xmy m).cls = xown (xmo m)) (hr : xmr m = none) (hn : (lg_sl args).length ≤ xmn m) (g : ∀ A, Gy l D cI m A R k n 0 ws 0 0 (lv_args 0 args) []) : yMet l D cI m args ws k n R := by
  intro sz
  refine Met.ofW (cc := xmb m) (maxL := xmn m) (ret := xmr m) (ws' := xTbl) hy rfl ?_
  intro p e s mi args' below meth c s₁ B hml hv
  obtain ⟨rfl, hsz, hP, hD, hK⟩ := hv
  subst hsz
  have hts := atoms_spec (ws := xWd m) B.pre
  have hown : s.vm.findClass (xmy m).cls = some mi.cls := findClass_of_methodNamed B.named
  rw [lg_entry_eq]
  exact g (va_A ws s.heap.size) p e s mi _ below meth c s.heap [] _ ⟨B.exec, B.bytes, hml, B.returns.trans hr, B.notSynchronized, ho ▸ hown, fun w h => hts w (List.mem_cons_of_mem _ h), hK, (name_of_methodNamed B.named B.method).1⟩ (fun q h => Or.inr h) hP hD.self va_S.rf (lv_entry args hn)
theorem Gy_ws {ws' : va_W} (h : ws = ws') (g : Gy l D cI m A R k n pc ws' a b lv st) : Gy l D cI m A R k n pc ws a b lv st := h ▸ g
theorem Gy_vret (hd : decode (xmb m) pc = .ok (.return_, 1)) (ha : a ≤ k) (hb : b ≤ n) (h : R ws) : Gy l D cI m A R k n pc ws a b lv [] := by
  intro p e s mi args below meth c H locs ls C hA hP hD hS hL
  obtain ⟨hx, hbb, hml, hrt, hlk, hown, hts, hK, hnm⟩ := C
  exact W.widen ha hb (W.vret hx hbb hrt (fun t ht hW => ⟨⟨ws, rfl, h, by rw [ht]; exact hP, hD⟩, hS.F ht⟩) hS.2.2 hd hlk)
theorem Gy_aload {i : Fin 4} {j t x : Nat} (hd : decode (xmb m) pc = .ok (.aload_n i, 1)) (hi : (i : Nat) = j) (hv : lv[t]? = some (j, .ref x)) (g : Gy l D cI m A R k n (pc + 1) ws a b lv (.ref x :: st)) : Gy l D cI m A R k n pc ws a b lv st := by
  intro p e s mi args below meth c H locs ls C hA hP hD hS hL
  exact lv_aload_n C.1 C.2.1 hd hi (lv_at hL t hv) (g p e s mi args below meth c H locs ls C hA hP hD hS hL)
theorem Gy_iload {i : Fin 4} {j t : Nat} {x : Int32} (hd : decode (xmb m) pc = .ok (.iload_n i, 1)) (hi : (i : Nat) = j) (hv : lv[t]? = some (j, .int x)) (g : Gy l D cI m A R k n (pc + 1) ws a b lv (.int x :: st)) : Gy l D cI m A R k n pc ws a b lv st := by
  intro p e s mi args below meth c H locs ls C hA hP hD hS hL
  exact lv_iload_n C.1 C.2.1 hd hi (lv_at hL t hv) (g p e s mi args below meth c H locs ls C hA hP hD hS hL)
theorem Gy_iconst {i : Int} {v : Int32} (hd : decode (xmb m) pc = .ok (.iconst i, 1)) (hv : Int32.ofInt i = v) (g : Gy l D cI m A R k n (pc + 1) ws a b lv (.int v :: st)) : Gy l D cI m A R k n pc ws a b lv st := by
  intro p e s mi args below meth c H locs ls C hA hP hD hS hL
  exact lv_iconst C.1 C.2.1 hd hv (g p e s mi args below meth c H locs ls C hA hP hD hS hL)
theorem Gy_bipush {i : Int} {v : Int32} (hd : decode (xmb m) pc = .ok (.bipush i, 2)) (hv : (Int8.ofInt i).toInt32 = v) (g : Gy l D cI m A R k n (pc + 2) ws a b lv (.int v :: st)) : Gy l D cI m A R k n pc ws a b lv st := by
  intro p e s mi args below meth c H locs ls C hA hP hD hS hL
  exact lv_bipush C.1 C.2.1 hd hv (g p e s mi args below meth c H locs ls C hA hP hD hS hL)
theorem Gy_sipush {i : Int} {v : Int32} (hd : decode (xmb m) pc = .ok (.sipush i, 3)) (hv : (Int16.ofInt i).toInt32 = v) (g : Gy l D cI m A R k n (pc + 3) ws a b lv (.int v :: st)) : Gy l D cI m A R k n pc ws a b lv st := by
  intro p e s mi args below meth c H locs ls C hA hP hD hS hL
  exact lv_sipush C.1 C.2.1 hd hv (g p e s mi args below meth c H locs ls C hA hP hD hS hL)
theorem Gy_dup {x : Nat} (hd : decode (xmb m) pc = .ok (.dup, 1)) (g : Gy l D cI m A R k n (pc + 1) ws a b lv (.ref x :: .ref x :: st)) : Gy l D cI m A R k n pc ws a b lv (.ref x :: st) := by
  intro p e s mi args below meth c H locs ls C hA hP hD hS hL
  exact lv_dup C.1 C.2.1 hd rfl (g p e s mi args below meth c H locs ls C hA hP hD hS hL)
theorem Gy_iadd {x y : Int32} (hd : decode (xmb m) pc = .ok (.iadd, 1)) (g : Gy l D cI m A R k n (pc + 1) ws a b lv (.int (x + y) :: st)) : Gy l D cI m A R k n pc ws a b lv (.int y :: .int x :: st) := by
  intro p e s mi args below meth c H locs ls C hA hP hD hS hL
  exact lv_iadd C.1 C.2.1 hd (g p e s mi args below meth c H locs ls C hA hP hD hS hL)
theorem Gy_goto {off : Int} {tgt : Nat} (hd : decode (xmb m) pc = .ok (.goto off, 3)) (ht : (pc : Int) + off = (tgt : Int)) (g : Gy l D cI m A R k n tgt ws a b lv st) : Gy l D cI m A R k n pc ws a b lv st := by
  intro p e s mi args below meth c H locs ls C hA hP hD hS hL
  exact lv_goto C.1 C.2.1 hd ht (g p e s mi args below meth c H locs ls C hA hP hD hS hL)
theorem Gy_icmp_ge {x y : Int32} {off : Int} {tgt : Nat} (hd : decode (xmb m) pc = .ok (.if_icmp .ge off, 3)) (ht : (pc : Int) + off = (tgt : Int)) (kt : y ≤ x → Gy l D cI m A R k n tgt ws a b lv st) (kf : ¬ y ≤ x → Gy l D cI m A R k n (pc + 3) ws a b lv st) : Gy l D cI m A R k n pc ws a b lv (.int y :: .int x :: st) := by
  intro p e s mi args below meth c H locs ls C hA hP hD hS hL
  exact lv_icmp_ge C.1 C.2.1 hd ht (fun h => kt h p e s mi args below meth c H locs ls C hA hP hD hS hL) (fun h => kf h p e s mi args below meth c H locs ls C hA hP hD hS hL)
theorem Gy_istore {i : Fin 4} {j : Nat} {x : Int32} {lv' : List (Nat × Value)} (hd : decode (xmb m) pc = .ok (.istore_n i, 1)) (hi : (i : Nat) = j) (hn : j < xmn m) (hl : (j, Value.int x) :: lv.filter (fun q => !(q.1 == j) && !(q.1 + 1 == j && q.2.category == 2)) = lv') (g : Gy l D cI m A R k n (pc + 1) ws a b lv' st) : Gy l D cI m A R k n pc ws a b lv (.int x :: st) := by
  intro p e s mi args below meth c H locs ls C hA hP hD hS hL
  exact lv_istore_n C.1 C.2.1 hd hi hL hn hl (fun ls hl2 => g p e s mi args below meth c H locs ls C hA hP hD hS hl2)
theorem Gy_iinc {j t : Nat} {i : Int} {x v : Int32} {lv' : List (Nat × Value)} (hd : decode (xmb m) pc = .ok (.iinc j i, 3)) (hk : lv[t]? = some (j, .int x)) (hv : x + Int32.ofInt i = v) (hn : j < xmn m) (hl : (j, Value.int v) :: lv.filter (fun q => !(q.1 == j) && !(q.1 + 1 == j && q.2.category == 2)) = lv') (g : Gy l D cI m A R k n (pc + 3) ws a b lv' st) : Gy l D cI m A R k n pc ws a b lv st := by
  intro p e s mi args below meth c H locs ls C hA hP hD hS hL
  exact lv_iinc C.1 C.2.1 hd hL hk hv hn hl (fun ls hl2 => g p e s mi args below meth c H locs ls C hA hP hD hS hl2)
theorem Gy_lv {lv' : List (Nat × Value)} (ks : List Nat) (hl : lv_pick lv ks = lv') (g : Gy l D cI m A R k n pc ws a b lv' st) : Gy l D cI m A R k n pc ws a b lv st := by
  intro p e s mi args below meth c H locs ls C hA hP hD hS hL
  exact g p e s mi args below meth c H locs ls C hA hP hD hS (lv_sub hL ks hl)
theorem Gy_obj {idx x : Nat} (hd : decode (xmb m) pc = .ok (.invokespecial idx, 3)) (hl : Cond.methodLink (xown (xmo m)) idx objectInit ∈ xTbl) (hdep : 1 ≤ xmd m) (g : Gy l D cI m A R k n (pc + 3) ws a b lv []) : Gy l D cI m A R k n pc ws a b lv [.ref x] := by
  intro p e s mi args below meth c H locs ls C hA hP hD hS hL
  have C0 := C
  obtain ⟨hx, hbb, hml, hrt, hlk, hown, hts, hK, hnm⟩ := C
  refine W.objInit hx hbb hown (hts _ hl) (hts _ yw_obj.1) (hts _ yw_obj.2) rfl (by rw [hml]; exact hL.1) rfl hd hdep (by show 2 * 0 + 0 + 12 ≤ 39 * xmd m; omega) ?_
  exact W.eq (g2 := F0 mi (pc + 3) ls []) rfl (g p e s mi args below meth c H locs ls C0 hA hP hD hS hL)
theorem Gy_newa {N : Nat} (hd : decode (xmb m) pc = .ok (.newarray .int, 2)) (hN : N < 100000) (ha : a + 1 ≤ k) (hb : b + N ≤ n) (g : ∀ q : Nat, Gy l D cI m A R k n (pc + 2) (ws ++ [(q, .inl (cI, N, .inl (fun _ => 0)))]) (a + 1) (b + N) lv (.ref q :: st)) : Gy l D cI m A R k n pc ws a b lv (.int (nI N) :: st) := by
  intro p e s mi args below meth c H locs ls C hA hP hD hS hL
  have C0 := C
  obtain ⟨hx, hbb, hml, hrt, hlk, hown, hts, hK, hnm⟩ := C
  refine va_newa (atype := .int) (ty := .int) (a0 := (N, .inl (fun _ => 0))) hx hbb (hts _ yw_arr) rfl hK.1 hP hD hS hA (fun cA => rfl) (nI_pos (by omega)) (z_cl (by omega)) (by show N * 4 ≤ 536870912; omega) ha hb hd (fun q cA H1 hK1 hP1 hD1 hS1 => ?_)
  have e1 : s.vm.findClass ("[" ++ (FieldType.int).toString) = some cI := (hK.1.2 0 _ rfl).2
  have e2 : s.vm.findClass ("[" ++ (FieldType.int).toString) = some cA := (hK1.2 1 _ rfl).2
  have e3 : cA = cI := Option.some.inj (e2.symm.trans e1)
  subst e3
  exact g q p e s mi args below meth c H1 locs ls C0 hA hP1 hD1 hS1 hL
theorem Gy_putF {idx ci t q0 h v N : Nat} {Cn : String} {T : u_T} {ty : Nat → FieldType} {fs : List Value} (hc : yCls ci Cn T N ty) (hd : decode (xmb m) pc = .ok (.putfield idx, 3)) (hl : Cond.fieldLink (xown (xmo m)) idx (T t).1 (T t).2.1 (T t).2.2.1 ∈ xTbl) (ht : t < N) (hfin : (T t).2.2.2 = true) (hini : (xmy m).name = "<init>") (hdecl : (T t).1 = xown (xmo m)) (hn : narrow (ty t) (.ref v) = .ref v) (hfit : fits (ty t) (.ref v) = true) (he : ws[q0]? = some (h, .inr (ci, fs))) (hlen : t < fs.length) (g : Gy l D cI m A R k n (pc + 3) (ws.set q0 (h, .inr (ci, fs.set t (.ref v)))) a b lv st) : Gy l D cI m A R k n pc ws a b lv (.ref v :: .ref h :: st) := by
  intro p e s mi args below meth c H locs ls C hA hP hD hS hL
  have C0 := C
  obtain ⟨hx, hbb, hml, hrt, hlk, hown, hts, hK, hnm⟩ := C
  exact va_putF hx hbb hts hc.2.1 ty hc.2.2.1 hc.2.2.2 hown hK.1 hP hD hS q0 he hc.1 t ht (hts _ hl) (fun x hx => hx) hfin (hnm.trans hini) hdecl (hc.2.2.1 t ht) hn hfit hlen hd (fun H1 locs1 hP1 hD1 hS1 => g p e s mi args below meth c H1 locs1 ls C0 hA hP1 hD1 hS1 hL)
theorem Gy_putI {idx ci t q0 h N : Nat} {x : Int32} {Cn : String} {T : u_T} {ty : Nat → FieldType} {fs : List Value} (hc : yCls ci Cn T N ty) (hd : decode (xmb m) pc = .ok (.putfield idx, 3)) (hl : Cond.fieldLink (xown (xmo m)) idx (T t).1 (T t).2.1 (T t).2.2.1 ∈ xTbl) (ht : t < N) (hfin : (T t).2.2.2 = false) (hn : narrow (ty t) (.int x) = .int x) (hfit : fits (ty t) (.int x) = true) (he : ws[q0]? = some (h, .inr (ci, fs))) (hlen : t < fs.length) (g : Gy l D cI m A R k n (pc + 3) (ws.set q0 (h, .inr (ci, fs.set t (.int x)))) a b lv st) : Gy l D cI m A R k n pc ws a b lv (.int x :: .ref h :: st) := by
  intro p e s mi args below meth c H locs ls C hA hP hD hS hL
  have C0 := C
  obtain ⟨hx, hbb, hml, hrt, hlk, hown, hts, hK, hnm⟩ := C
  exact va_put hx hbb hts hc.2.1 ty hc.2.2.1 hc.2.2.2 hown hK.1 hP hD hS q0 he hc.1 t ht (hts _ hl) (fun x hx => hx) hfin (hc.2.2.1 t ht) hn hfit hlen hd (fun H1 locs1 hP1 hD1 hS1 => g p e s mi args below meth c H1 locs1 ls C0 hA hP1 hD1 hS1 hL)
theorem Gy_getf {idx ci t q0 h N : Nat} {v : Value} {Cn : String} {T : u_T} {ty : Nat → FieldType} {fs : List Value} (hc : yCls ci Cn T N ty) (hd : decode (xmb m) pc = .ok (.getfield idx, 3)) (hl : Cond.fieldLink (xown (xmo m)) idx (T t).1 (T t).2.1 (T t).2.2.1 ∈ xTbl) (ht : t < N) (he : ws[q0]? = some (h, .inr (ci, fs))) (hv : fs[t]? = some v) (g : Gy l D cI m A R k n (pc + 3) ws a b lv (v :: st)) : Gy l D cI m A R k n pc ws a b lv (.ref h :: st) := by
  intro p e s mi args below meth c H locs ls C hA hP hD hS hL
  have C0 := C
  obtain ⟨hx, hbb, hml, hrt, hlk, hown, hts, hK, hnm⟩ := C
  exact va_get hx hbb hts hc.2.1 hown hK.1 hP q0 he hc.1 t ht (hts _ hl) (fun x hx => hx) hv hd (g p e s mi args below meth c H locs ls C0 hA hP hD hS hL)
theorem Gy_iast {q0 h N : Nat} {f : Nat → Int32} {i x : Int32} (hd : decode (xmb m) pc = .ok (.iastore, 1)) (he : ws[q0]? = some (h, .inl (cI, N, .inl f))) (hi : vp_in i N) (g : Gy l D cI m A R k n (pc + 1) (ws.set q0 (h, .inl (cI, N, .inl (upd f i.toNatClampNeg x)))) a b lv st) : Gy l D cI m A R k n pc ws a b lv (.int x :: .int i :: .ref h :: st) := by
  intro p e s mi args below meth c H locs ls C hA hP hD hS hL
  have C0 := C
  obtain ⟨hx, hbb, hml, hrt, hlk, hown, hts, hK, hnm⟩ := C
  exact va_iast hx hbb hK.1 hP hD hS q0 0 he rfl hi hd (fun H1 locs1 hP1 hD1 hS1 => g p e s mi args below meth c H1 locs1 ls C0 hA hP1 hD1 hS1 hL)
theorem Gy_alen {q0 h N : Nat} {f : Nat → Int32} (hd : decode (xmb m) pc = .ok (.arraylength, 1)) (he : ws[q0]? = some (h, .inl (cI, N, .inl f))) (g : Gy l D cI m A R k n (pc + 1) ws a b lv (.int (nI N) :: st)) : Gy l D cI m A R k n pc ws a b lv (.ref h :: st) := by
  intro p e s mi args below meth c H locs ls C hA hP hD hS hL
  have C0 := C
  obtain ⟨hx, hbb, hml, hrt, hlk, hown, hts, hK, hnm⟩ := C
  exact va_alen hx hbb hK.1 hP q0 0 he rfl rfl hd (g p e s mi args below meth c H locs ls C0 hA hP hD hS hL)
theorem Gy_new {idx ci N : Nat} {Cn : String} {T : u_T} {ty : Nat → FieldType} {fs : List Value} (hc : yCls ci Cn T N ty) (hd : decode (xmb m) pc = .ok (.new idx, 3)) (hcl : Cond.classLink (xown (xmo m)) idx Cn ∈ xTbl) (hinst : Cond.instantiable Cn N ∈ xTbl) (hini : Cond.initialized Cn ∈ xTbl) (hfs : ∀ j, j < N → defaultValue (ty j) = vp_V fs j) (ha : a + 1 ≤ k) (hb : b + N ≤ n) (g : ∀ q : Nat, Gy l D cI m A R k n (pc + 3) (ws ++ [(q, .inr (ci, fs))]) (a + 1) (b + N) lv (.ref q :: st)) : Gy l D cI m A R k n pc ws a b lv st := by
  intro p e s mi args below meth c H locs ls C hA hP hD hS hL
  have C0 := C
  obtain ⟨hx, hbb, hml, hrt, hlk, hown, hts, hK, hnm⟩ := C
  exact va_new hx hbb hts hc.2.1 ty hc.2.2.1 hown (hts _ hcl) (hts _ hinst) (hts _ hini) hK.1 hP hD hS hA hc.1 hfs ha hb hd (fun q H1 hP1 hD1 hS1 => g q p e s mi args below meth c H1 locs ls C0 hA hP1 hD1 hS1 hL)
theorem yPre_blind {av : List Value} {sz : Nat} : FrameBlind (va_Pc av (yPre D cI ws sz)) := by
  intro a U g mk q
  obtain ⟨q0, q1, qP, qD, qK, qN⟩ := q
  exact ⟨q0, q1, qP, qD, va_K.moved (u := U) (U := U.calling g mk a) (Vm.Alike.refl U.vm) qK, yNs.same (u := U) (U := U.calling g mk a) rfl qN⟩
theorem yKo.warm {s U : State} (hW : s.WarmedH U.vm) (h : yKo D cI s) : yKo D cI U := ⟨va_K.moved hW.alike h.1, yNs.warm hW h.2⟩
/-- what a constructor is to be called -/
def yMok (m : xMt) (np : Nat) : Prop := Cond.code (xmy m) (xmb m) (xmn m) (xmr m) ∈ xTbl ∧ Cond.initialized (xmy m).cls ∈ xTbl ∧ ((xmy m).cls ≠ "java/lang/invoke/MethodHandle" ∧ (xmy m).cls ≠ "java/lang/invoke/VarHandle" ∧ (parseMethodDescriptor (xmy m).desc).map (fun d => d.parameters.length) = some np) ∧ xmn m ≤ 20 ∧ xmr m = none
theorem yWd_good {m : xMt} {np : Nat} (h : yMok m np) : GoodIn xTbl (xWd m) := by
  intro w hw
  rcases List.mem_cons.mp hw with rfl | hw
  · exact ⟨h.1, xTbl_good _ h.1⟩
  · exact ⟨hw, xTbl_good _ hw⟩
theorem y_room {d d' nL k n kc nc : Nat} (h : d' + 1 ≤ d) (hn : nL ≤ 20) : (yR d' kc nc).frames + 1 ≤ (yR d k n).frames ∧ 8 + (nL + 11) + (yR d' kc nc).locals ≤ (yR d k n).locals := by
  simp only [yR]
  omega
theorem Gy_callI {mc : xMt} {idx q kc nc : Nat} {e0 : va_E} {Rc : va_W → Prop} (hd : decode (xmb m) pc = .ok (.invokespecial idx, 3)) (hm : yMok mc 0) (hn : (xmy mc).name = "<init>") (hin : Cond.instanceMethod (xmy mc) ∈ xTbl) (hl : Cond.methodLink (xown (xmo m)) idx (xmy mc) ∈ xTbl) (hdep : xmd mc + 1 ≤ xmd m) (hC : yMet l D cI mc [.ref q] [(q, e0)] kc nc Rc) (ha : a + kc ≤ k) (hb : b + nc ≤ n) (hst : (st.map fun v => v.category).sum ≤ 8) (g : ∀ w1, Rc w1 → Gy l D cI m A R k n (pc + 3) (ws ++ w1) (a + kc) (b + nc) lv st) : Gy l D cI m A R k n pc (ws ++ [(q, e0)]) a b lv (.ref q :: st) := by
  intro p e s mi args below meth c H locs ls C hA hP hD hS hL
  have C0 := C
  obtain ⟨hx, hbb, hml, hrt, hlk, hown, hts, hK, hnm⟩ := C
  have hFc : ∀ x, va_A [(q, e0)] H.size x → A x := va_free hD hS hA [ws.length] (by simp)
  have hPc : va_P D vwCl [(q, e0)] H := hP.sub [ws.length] (by simp)
  have hDc : va_D A [(q, e0)] := hD.sub [ws.length] (nd_of (by simp)) (by simp)
  refine va_callv (va_runI (As := []) (rest := st) ⟨hx, hbb, hml, hown, hts⟩ (hC H.size) (cwI (ws' := xTbl) 0 hts (yWd_good hm) (by unfold xWd; rw [hm.2.2.2.2]) rfl rfl (hts _ hm.2.1) (hts _ hl) (hts _ hin) hn hm.2.2.1 (y_room hdep hm.2.2.2.1)) ⟨yPre_blind, fun U hU hW => ⟨rfl, by rw [hU], by rw [hU]; exact hPc, hDc.weaken (fun _ _ _ _ => trivial), yKo.warm hW hK⟩⟩ rfl rfl hL.1 rfl (lv_room hst) hd ⟨ha, hb⟩) hS (fun x _ h => hFc x h) hFc (fun u t H1 locs1 ht hvm hw hB hz1 hk1 hS1 => ?_)
  obtain ⟨hP1, hD1⟩ := hB
  rw [ht] at hP1
  obtain ⟨hP2, hD2⟩ := y_join hP hD hk1 hFc hP1 hD1
  exact g u hw p e s mi args below meth c H1 locs1 ls C0 hA hP2 hD2 hS1 hL
theorem Gy_callIN {mc : xMt} {idx q kc nc : Nat} {e0 : va_E} {Rc : va_W → Prop} (ho : xmo m = 3) (hd : decode (xmb m) pc = .ok (.invokespecial idx, 3)) (hm : yMok mc 0) (hn : (xmy mc).name = "<init>") (hin : Cond.instanceMethod (xmy mc) ∈ xTbl) (hl : ∀ s, yNs s → va_Nw (.methodLinkNest RX3 idx (xmy mc) RX3) s) (hdep : xmd mc + 1 ≤ xmd m) (hC : yMet l D cI mc [.ref q] [(q, e0)] kc nc Rc) (ha : a + kc ≤ k) (hb : b + nc ≤ n) (hst : (st.map fun v => v.category).sum ≤ 8) (g : ∀ w1, Rc w1 → Gy l D cI m A R k n (pc + 3) (ws ++ w1) (a + kc) (b + nc) lv st) : Gy l D cI m A R k n pc (ws ++ [(q, e0)]) a b lv (.ref q :: st) := by
  intro p e s mi args below meth c H locs ls C hA hP hD hS hL
  have C0 := C
  obtain ⟨hx, hbb, hml, hrt, hlk, hown, hts, hK, hnm⟩ := C
  have hFc : ∀ x, va_A [(q, e0)] H.size x → A x := va_free hD hS hA [ws.length] (by simp)
  have hPc : va_P D vwCl [(q, e0)] H := hP.sub [ws.length] (by simp)
  have hDc : va_D A [(q, e0)] := hD.sub [ws.length] (nd_of (by simp)) (by simp)
  have hown2 : s.vm.findClass RX3 = some mi.cls := by rw [ho] at hown; exact hown
  refine va_callv (va_runIN (own := RX3) (host := RX3) (As := []) (rest := st) ⟨hx, hbb, hml, hown2, hts⟩ (hC H.size) ⟨va_cnB (ws' := xTbl) 0 hts (yWd_good hm) (by unfold xWd; rw [hm.2.2.2.2]) rfl rfl (hl s hK.2) (hts _ hm.2.1) hm.2.2.1 (y_room hdep hm.2.2.2.1), hn, hts _ hin⟩ ⟨yPre_blind, fun U hU hW => ⟨rfl, by rw [hU], by rw [hU]; exact hPc, hDc.weaken (fun _ _ _ _ => trivial), yKo.warm hW hK⟩⟩ rfl rfl hL.1 rfl (lv_room hst) hd ⟨ha, hb⟩) hS (fun x _ h => hFc x h) hFc (fun u t H1 locs1 ht hvm hw hB hz1 hk1 hS1 => ?_)
  obtain ⟨hP1, hD1⟩ := hB
  rw [ht] at hP1
  obtain ⟨hP2, hD2⟩ := y_join hP hD hk1 hFc hP1 hD1
  exact g u hw p e s mi args below meth c H1 locs1 ls C0 hA hP2 hD2 hS1 hL
theorem Gy_callS {mc : xMt} {idx q q0 : Nat} {x : Int32} {e0 e1 : va_E} (hd : decode (xmb m) pc = .ok (.invokestatic idx, 3)) (hm : yMok mc 2) (hsx : Cond.static (xmy mc) ∈ xTbl) (hl : Cond.methodLink (xown (xmo m)) idx (xmy mc) ∈ xTbl) (hdep : xmd mc + 1 ≤ xmd m) (hC : yMet l D cI mc [.ref q, .int x] [(q, e0)] 0 0 (fun w => w = [(q, e1)])) (he : ws[q0]? = some (q, e0)) (ha : a ≤ k) (hb : b ≤ n) (hst : (st.map fun v => v.category).sum ≤ 8) (g : Gy l D cI m A R k n (pc + 3) (ws.set q0 (q, e1)) a b lv st) : Gy l D cI m A R k n pc ws a b lv (.int x :: .ref q :: st) := by
  intro p e s mi args below meth c H locs ls C hA hP hD hS hL
  have C0 := C
  obtain ⟨hx, hbb, hml, hrt, hlk, hown, hts, hK, hnm⟩ := C
  have e0' : ([q0] : List Nat).map (fun i => ws[i]?) = ([(q, e0)] : va_W).map some := by simp [he]
  have hFc : ∀ x, va_A [(q, e0)] H.size x → A x := va_free hD hS hA [q0] e0'
  have hPc : va_P D vwCl [(q, e0)] H := hP.sub [q0] (by simp [he])
  have hDc : va_D A [(q, e0)] := hD.sub [q0] (nd_of (by simp)) e0'
  refine va_callv (va_runS (As := [.ref q, .int x]) (rest := st) ⟨hx, hbb, hml, hown, hts⟩ (hC H.size) ⟨callB_of (ws' := xTbl) 2 hts (yWd_good hm) rfl rfl rfl (hts _ hm.2.1) (hts _ hl) hm.2.2.1 (y_room hdep hm.2.2.2.1), hts _ hsx⟩ ⟨yPre_blind, fun U hU hW => ⟨rfl, by rw [hU], by rw [hU]; exact hPc, hDc.weaken (fun _ _ _ _ => trivial), yKo.warm hW hK⟩⟩ rfl rfl hL.1 rfl (lv_room hst) hd ⟨ha, hb⟩) hS (fun x _ h => hFc x h) hFc (fun u t H1 locs1 ht hvm hw hB hz1 hk1 hS1 => ?_)
  obtain ⟨hP1, hD1⟩ := hB
  rw [ht] at hP1
  subst hw
  obtain ⟨hP2, hD2⟩ := y_set hP hD he hk1 (hP1 0 _ rfl)
  exact g p e s mi args below meth c H1 locs1 ls C0 hA hP2 hD2 hS1 hL
end Y2
