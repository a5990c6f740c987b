/-! constructors: their blocks; Arrays.fill -/
def zF : Nat → Int32 := fun _ => 0
def fF (n : Nat) : Nat → Int32 := fun j => if j < n then -9 else 0
section Y3
variable {l : Launch} {D : va_G} {cI : ClassId} {m : xMt} {A : Nat → Prop} {R : va_W → Prop} {k n pc : Nat} {a b : Nat} {lv : List (Nat × Value)} {L : va_W}
theorem Gy_arrB {ci t t0 N Nc h idx : Nat} {i : Int} {Cn : String} {T : u_T} {ty : Nat → FieldType} {fs : List Value} (hc : yCls ci Cn T Nc ty) (d0 : decode (xmb m) pc = .ok (.aload_n 0, 1)) (d1 : decode (xmb m) (pc + 1) = .ok (.bipush i, 2)) (hi : (Int8.ofInt i).toInt32 = nI N) (d2 : decode (xmb m) (pc + 3) = .ok (.newarray .int, 2)) (d3 : decode (xmb m) (pc + 5) = .ok (.putfield idx, 3)) (hl : Cond.fieldLink (xown (xmo m)) idx (T t).1 (T t).2.1 (T t).2.2.1 ∈ xTbl) (ht : t < Nc) (hfin : (T t).2.2.2 = true) (hini : (xmy m).name = "<init>") (hdecl : (T t).1 = xown (xmo m)) (hn : ∀ q, narrow (ty t) (.ref q) = .ref q) (hfit : ∀ q, fits (ty t) (.ref q) = true) (hlen : t < fs.length) (hN : N < 100000) (ha : a + 1 ≤ k) (hb : b + N ≤ n) (hv : lv[t0]? = some (0, .ref h))
    (g : ∀ q : Nat, Gy l D cI m A R k n (pc + 8) ((h, .inr (ci, fs.set t (.ref q))) :: (L ++ [(q, .inl (cI, N, .inl zF))])) (a + 1) (b + N) lv []) : Gy l D cI m A R k n pc ((h, .inr (ci, fs)) :: L) a b lv [] := by
  refine Gy_aload (i := 0) (t := t0) d0 rfl hv (Gy_bipush d1 hi (Gy_newa d2 hN ha hb (fun q => ?_)))
  exact Gy_putF (q0 := 0) hc d3 hl ht hfin hini hdecl (hn q) (hfit q) rfl hlen (g q)
theorem Gy_arrS {ci t t0 N Nc h idx : Nat} {i : Int} {Cn : String} {T : u_T} {ty : Nat → FieldType} {fs : List Value} (hc : yCls ci Cn T Nc ty) (d0 : decode (xmb m) pc = .ok (.aload_n 0, 1)) (d1 : decode (xmb m) (pc + 1) = .ok (.sipush i, 3)) (hi : (Int16.ofInt i).toInt32 = nI N) (d2 : decode (xmb m) (pc + 4) = .ok (.newarray .int, 2)) (d3 : decode (xmb m) (pc + 6) = .ok (.putfield idx, 3)) (hl : Cond.fieldLink (xown (xmo m)) idx (T t).1 (T t).2.1 (T t).2.2.1 ∈ xTbl) (ht : t < Nc) (hfin : (T t).2.2.2 = true) (hini : (xmy m).name = "<init>") (hdecl : (T t).1 = xown (xmo m)) (hn : ∀ q, narrow (ty t) (.ref q) = .ref q) (hfit : ∀ q, fits (ty t) (.ref q) = true) (hlen : t < fs.length) (hN : N < 100000) (ha : a + 1 ≤ k) (hb : b + N ≤ n) (hv : lv[t0]? = some (0, .ref h))
    (g : ∀ q : Nat, Gy l D cI m A R k n (pc + 9) ((h, .inr (ci, fs.set t (.ref q))) :: (L ++ [(q, .inl (cI, N, .inl zF))])) (a + 1) (b + N) lv []) : Gy l D cI m A R k n pc ((h, .inr (ci, fs)) :: L) a b lv [] := by
  refine Gy_aload (i := 0) (t := t0) d0 rfl hv (Gy_sipush d1 hi (Gy_newa d2 hN ha hb (fun q => ?_)))
  exact Gy_putF (q0 := 0) hc d3 hl ht hfin hini hdecl (hn q) (hfit q) rfl hlen (g q)
theorem Gy_intB {ci t t0 Nc h idx : Nat} {Cn : String} {T : u_T} {ty : Nat → FieldType} {fs : List Value} (hc : yCls ci Cn T Nc ty) (d0 : decode (xmb m) pc = .ok (.aload_n 0, 1)) (d1 : decode (xmb m) (pc + 1) = .ok (.iconst 0, 1)) (d2 : decode (xmb m) (pc + 2) = .ok (.putfield idx, 3)) (hl : Cond.fieldLink (xown (xmo m)) idx (T t).1 (T t).2.1 (T t).2.2.1 ∈ xTbl) (ht : t < Nc) (hfin : (T t).2.2.2 = false) (hn : narrow (ty t) (.int 0) = .int 0) (hfit : fits (ty t) (.int 0) = true) (hfs : fs.set t (.int 0) = fs) (hlen : t < fs.length) (hv : lv[t0]? = some (0, .ref h))
    (g : Gy l D cI m A R k n (pc + 5) ((h, .inr (ci, fs)) :: L) a b lv []) : Gy l D cI m A R k n pc ((h, .inr (ci, fs)) :: L) a b lv [] := by
  refine Gy_aload (i := 0) (t := t0) d0 rfl hv (Gy_iconst (v := 0) d1 rfl ?_)
  refine Gy_putI (q0 := 0) hc d2 hl ht hfin hn hfit rfl hlen ?_
  show Gy l D cI m A R k n (pc + 5) ((h, .inr (ci, fs.set t (.int 0))) :: L) a b lv []
  rw [hfs]; exact g
theorem Gy_sub {mc : xMt} {ci cs t t0 Nc Ns h idx idn idi kc nc : Nat} {Cn Cs : String} {T Ts : u_T} {ty tys : Nat → FieldType} {fs f0 : List Value} {Rc : Nat → va_W → Prop} (hc : yCls ci Cn T Nc ty) (hcs : yCls cs Cs Ts Ns tys) (d0 : decode (xmb m) pc = .ok (.aload_n 0, 1)) (d1 : decode (xmb m) (pc + 1) = .ok (.new idn, 3)) (d2 : decode (xmb m) (pc + 4) = .ok (.dup, 1)) (d3 : decode (xmb m) (pc + 5) = .ok (.invokespecial idi, 3)) (d4 : decode (xmb m) (pc + 8) = .ok (.putfield idx, 3)) (hl : Cond.fieldLink (xown (xmo m)) idx (T t).1 (T t).2.1 (T t).2.2.1 ∈ xTbl) (ht : t < Nc) (hfin : (T t).2.2.2 = true) (hini : (xmy m).name = "<init>") (hdecl : (T t).1 = xown (xmo m)) (hn : ∀ q, narrow (ty t) (.ref q) = .ref q) (hfit : ∀ q, fits (ty t) (.ref q) = true) (hlen : t < fs.length)
    (hcl : Cond.classLink (xown (xmo m)) idn Cs ∈ xTbl) (hinst : Cond.instantiable Cs Ns ∈ xTbl) (hin : Cond.initialized Cs ∈ xTbl) (hfs : ∀ j, j < Ns → defaultValue (tys j) = vp_V f0 j) (hm : yMok mc 0) (hnm : (xmy mc).name = "<init>") (hinm : Cond.instanceMethod (xmy mc) ∈ xTbl) (hml : Cond.methodLink (xown (xmo m)) idi (xmy mc) ∈ xTbl) (hdep : xmd mc + 1 ≤ xmd m) (hC : ∀ q, yMet l D cI mc [.ref q] [(q, .inr (cs, f0))] kc nc (Rc q)) (ha : a + (1 + kc) ≤ k) (hb : b + (Ns + nc) ≤ n) (hv : lv[t0]? = some (0, .ref h))
    (g : ∀ (q : Nat) (w1 : va_W), Rc q w1 → Gy l D cI m A R k n (pc + 11) ((h, .inr (ci, fs.set t (.ref q))) :: (L ++ w1)) (a + 1 + kc) (b + Ns + nc) lv []) : Gy l D cI m A R k n pc ((h, .inr (ci, fs)) :: L) a b lv [] := by
  refine Gy_aload (i := 0) (t := t0) d0 rfl hv (Gy_new hcs d1 hcl hinst hin hfs (by omega) (by omega) (fun q => Gy_dup d2 ?_))
  refine Gy_callI d3 hm hnm hinm hml hdep (hC q) (by omega) (by omega) (Nat.le_of_ble_eq_true rfl) (fun w1 hw => ?_)
  exact Gy_putF (q0 := 0) hc d4 hl ht hfin hini hdecl (hn q) (hfit q) rfl hlen (g q w1 hw)
theorem Gy_subN {mc : xMt} {ci cs t t0 Nc Ns h idx idn idi kc nc : Nat} {Cn Cs : String} {T Ts : u_T} {ty tys : Nat → FieldType} {fs f0 : List Value} {Rc : Nat → va_W → Prop} (ho : xmo m = 3) (hc : yCls ci Cn T Nc ty) (hcs : yCls cs Cs Ts Ns tys) (d0 : decode (xmb m) pc = .ok (.aload_n 0, 1)) (d1 : decode (xmb m) (pc + 1) = .ok (.new idn, 3)) (d2 : decode (xmb m) (pc + 4) = .ok (.dup, 1)) (d3 : decode (xmb m) (pc + 5) = .ok (.invokespecial idi, 3)) (d4 : decode (xmb m) (pc + 8) = .ok (.putfield idx, 3)) (hl : Cond.fieldLink (xown (xmo m)) idx (T t).1 (T t).2.1 (T t).2.2.1 ∈ xTbl) (ht : t < Nc) (hfin : (T t).2.2.2 = true) (hini : (xmy m).name = "<init>") (hdecl : (T t).1 = xown (xmo m)) (hn : ∀ q, narrow (ty t) (.ref q) = .ref q) (hfit : ∀ q, fits (ty t) (.ref q) = true) (hlen : t < fs.length)
    (hcl : Cond.classLink (xown (xmo m)) idn Cs ∈ xTbl) (hinst : Cond.instantiable Cs Ns ∈ xTbl) (hin : Cond.initialized Cs ∈ xTbl) (hfs : ∀ j, j < Ns → defaultValue (tys j) = vp_V f0 j) (hm : yMok mc 0) (hnm : (xmy mc).name = "<init>") (hinm : Cond.instanceMethod (xmy mc) ∈ xTbl) (hml : ∀ s, yNs s → va_Nw (.methodLinkNest RX3 idi (xmy mc) RX3) s) (hdep : xmd mc + 1 ≤ xmd m) (hC : ∀ q, yMet l D cI mc [.ref q] [(q, .inr (cs, f0))] kc nc (Rc q)) (ha : a + (1 + kc) ≤ k) (hb : b + (Ns + nc) ≤ n) (hv : lv[t0]? = some (0, .ref h))
    (g : ∀ (q : Nat) (w1 : va_W), Rc q w1 → Gy l D cI m A R k n (pc + 11) ((h, .inr (ci, fs.set t (.ref q))) :: (L ++ w1)) (a + 1 + kc) (b + Ns + nc) lv []) : Gy l D cI m A R k n pc ((h, .inr (ci, fs)) :: L) a b lv [] := by
  refine Gy_aload (i := 0) (t := t0) d0 rfl hv (Gy_new hcs d1 hcl hinst hin hfs (by omega) (by omega) (fun q => Gy_dup d2 ?_))
  refine Gy_callIN ho d3 hm hnm hinm hml hdep (hC q) (by omega) (by omega) (Nat.le_of_ble_eq_true rfl) (fun w1 hw => ?_)
  exact Gy_putF (q0 := 0) hc d4 hl ht hfin hini hdecl (hn q) (hfit q) rfl hlen (g q w1 hw)
end Y3
theorem fill_s {N i : Nat} {x : Int32} {f : Nat → Int32} (hi : i < N) (hN : N < 100000) : upd (fun j => if j < i then x else f j) (nI i).toNatClampNeg x = fun j => if j < i + 1 then x else f j := by
  rw [z_cl (by omega)]
  funext j
  unfold upd
  by_cases e : j = i
  · rw [if_pos e, if_pos (by omega)]
  · rw [if_neg e]
    show (if j < i then x else f j) = if j < i + 1 then x else f j
    by_cases z : j < i
    · rw [if_pos z, if_pos (by omega)]
    · rw [if_neg z, if_neg (by omega)]
set_option maxRecDepth 100000 in
theorem cy_fill {l : Launch} {D : va_G} {cI : ClassId} {q N : Nat} {x : Int32} {f : Nat → Int32} (hN : N < 100000) : yMet l D cI mJ7_fill_53178 [.ref q, .int x] [(q, .inl (cI, N, .inl f))] 0 0 (fun w => w = [(q, .inl (cI, N, .inl (fun j => if j < N then x else f j)))]) := by
  refine yMet_of (by decide +kernel) rfl rfl (Nat.le_of_ble_eq_true rfl) (fun A => ?_)
  show Gy l D cI mJ7_fill_53178 A _ 0 0 0 [(q, .inl (cI, N, .inl f))] 0 0 [(0, .ref q), (1, .int x)] []
  refine Gy_iconst (i := 0) (v := 0) (by decide +kernel) rfl ?_
  refine Gy_istore (i := 2) (j := 2) (lv' := [(2, .int 0), (0, .ref q), (1, .int x)]) (by decide +kernel) rfl (by decide) rfl ?_
  refine Gy_aload (i := 0) (t := 1) (by decide +kernel) rfl rfl ?_
  refine Gy_alen (q0 := 0) (by decide +kernel) rfl ?_
  refine Gy_istore (i := 3) (j := 3) (lv' := [(3, .int (nI N)), (2, .int 0), (0, .ref q), (1, .int x)]) (by decide +kernel) rfl (by decide) rfl ?_
  have loop : ∀ c i, i + c = N → Gy l D cI mJ7_fill_53178 A (fun w => w = [(q, .inl (cI, N, .inl (fun j => if j < N then x else f j)))]) 0 0 5 [(q, .inl (cI, N, .inl (fun j => if j < i then x else f j)))] 0 0 [(3, .int (nI N)), (2, .int (nI i)), (0, .ref q), (1, .int x)] [] := by
    intro c
    induction c with
    | zero =>
      intro i hi
      have e : i = N := by omega
      subst e
      refine Gy_iload (i := 2) (t := 1) (by decide +kernel) rfl rfl ?_
      refine Gy_iload (i := 3) (t := 0) (by decide +kernel) rfl rfl ?_
      refine Gy_icmp_ge (off := 13) (tgt := 20) (by decide +kernel) (by decide) (fun _ => ?_) (fun z => absurd (nI_le (Nat.le_refl i) (by omega)) z)
      exact Gy_vret (by decide +kernel) (Nat.le_refl 0) (Nat.le_refl 0) rfl
    | succ c ih =>
      intro i hi
      refine Gy_iload (i := 2) (t := 1) (by decide +kernel) rfl rfl ?_
      refine Gy_iload (i := 3) (t := 0) (by decide +kernel) rfl rfl ?_
      refine Gy_icmp_ge (off := 13) (tgt := 20) (by decide +kernel) (by decide) (fun z => ?_) (fun _ => ?_)
      · rw [z_le (by omega) (by omega)] at z; omega
      refine Gy_aload (i := 0) (t := 2) (by decide +kernel) rfl rfl ?_
      refine Gy_iload (i := 2) (t := 1) (by decide +kernel) rfl rfl ?_
      refine Gy_iload (i := 1) (t := 3) (by decide +kernel) rfl rfl ?_
      refine Gy_iast (q0 := 0) (by decide +kernel) rfl ((z_in (by omega) (by omega)).mpr (by omega)) ?_
      refine Gy_ws (ws' := [(q, .inl (cI, N, .inl (fun j => if j < i + 1 then x else f j)))]) ?_ ?_
      · show [(q, (Sum.inl (cI, N, Sum.inl (upd (fun j => if j < i then x else f j) (nI i).toNatClampNeg x)) : va_E))] = _
        rw [fill_s (N := N) (by omega) hN]
      refine Gy_iinc (j := 2) (i := 1) (t := 1) (v := nI (i + 1)) (lv' := [(2, .int (nI (i + 1))), (3, .int (nI N)), (0, .ref q), (1, .int x)]) (by decide +kernel) rfl (nI_1 i) (by decide) rfl ?_
      refine Gy_goto (off := -12) (tgt := 5) (by decide +kernel) (by decide) ?_
      exact Gy_lv [1, 0, 2, 3] rfl (ih (i + 1) (by omega))
  have h0 := loop N 0 (by omega)
  exact Gy_ws (by
    have e : (fun j => if j < 0 then x else f j) = f := funext fun j => if_neg (Nat.not_lt_zero j)
    rw [e]) h0
