/-! straight stretches of code over the abstract machine: xs computes them, Gx_run says that the machine follows -/
section XI
variable {l : Launch} {E : xE} {m : xMt} {R : Option Value → xM → Prop} {pc : Nat} {M : xM} {L : List (Option Value)} {st : List Value}
theorem Gx_iadd {x y : Int32} (hd : decode (xmb m) pc = .ok (.iadd, 1)) (k : Gx l E m R (pc + 1) M L (.int (x + y) :: st)) : Gx l E m R pc M L (.int y :: .int x :: st) := by
  intro p e s mi args below meth c H locs ls C hP hD hS hL
  exact lv_iadd C.1 C.2.1 hd (k p e s mi args below meth c H locs ls C hP hD hS hL)
theorem Gx_isub {x y : Int32} (hd : decode (xmb m) pc = .ok (.isub, 1)) (k : Gx l E m R (pc + 1) M L (.int (x - y) :: st)) : Gx l E m R pc M L (.int y :: .int x :: st) := by
  intro p e s mi args below meth c H locs ls C hP hD hS hL
  exact lv_isub C.1 C.2.1 hd (k p e s mi args below meth c H locs ls C hP hD hS hL)
theorem Gx_imul {x y : Int32} (hd : decode (xmb m) pc = .ok (.imul, 1)) (k : Gx l E m R (pc + 1) M L (.int (x * y) :: st)) : Gx l E m R pc M L (.int y :: .int x :: st) := by
  intro p e s mi args below meth c H locs ls C hP hD hS hL
  exact lv_imul C.1 C.2.1 hd (k p e s mi args below meth c H locs ls C hP hD hS hL)
theorem Gx_iand {x y : Int32} (hd : decode (xmb m) pc = .ok (.iand, 1)) (k : Gx l E m R (pc + 1) M L (.int (x &&& y) :: st)) : Gx l E m R pc M L (.int y :: .int x :: st) := by
  intro p e s mi args below meth c H locs ls C hP hD hS hL
  exact lv_iand C.1 C.2.1 hd (k p e s mi args below meth c H locs ls C hP hD hS hL)
theorem Gx_ior {x y : Int32} (hd : decode (xmb m) pc = .ok (.ior, 1)) (k : Gx l E m R (pc + 1) M L (.int (x ||| y) :: st)) : Gx l E m R pc M L (.int y :: .int x :: st) := by
  intro p e s mi args below meth c H locs ls C hP hD hS hL
  exact lv_ior C.1 C.2.1 hd (k p e s mi args below meth c H locs ls C hP hD hS hL)
theorem Gx_ixor {x y : Int32} (hd : decode (xmb m) pc = .ok (.ixor, 1)) (k : Gx l E m R (pc + 1) M L (.int (x ^^^ y) :: st)) : Gx l E m R pc M L (.int y :: .int x :: st) := by
  intro p e s mi args below meth c H locs ls C hP hD hS hL
  exact lv_ixor C.1 C.2.1 hd (k p e s mi args below meth c H locs ls C hP hD hS hL)
theorem Gx_ishl {x y : Int32} (hd : decode (xmb m) pc = .ok (.ishl, 1)) (k : Gx l E m R (pc + 1) M L (.int (x <<< (y &&& 31)) :: st)) : Gx l E m R pc M L (.int y :: .int x :: st) := by
  intro p e s mi args below meth c H locs ls C hP hD hS hL
  exact lv_ishl C.1 C.2.1 hd (k p e s mi args below meth c H locs ls C hP hD hS hL)
theorem Gx_ishr {x y : Int32} (hd : decode (xmb m) pc = .ok (.ishr, 1)) (k : Gx l E m R (pc + 1) M L (.int (x >>> (y &&& 31)) :: st)) : Gx l E m R pc M L (.int y :: .int x :: st) := by
  intro p e s mi args below meth c H locs ls C hP hD hS hL
  exact lv_ishr C.1 C.2.1 hd (k p e s mi args below meth c H locs ls C hP hD hS hL)
theorem Gx_idiv {x y : Int32} (hd : decode (xmb m) pc = .ok (.idiv, 1)) (hne : ¬ y = 0) (k : Gx l E m R (pc + 1) M L (.int (x / y) :: st)) : Gx l E m R pc M L (.int y :: .int x :: st) := by
  intro p e s mi args below meth c H locs ls C hP hD hS hL
  exact lv_idiv C.1 C.2.1 hd hne (k p e s mi args below meth c H locs ls C hP hD hS hL)
theorem Gx_irem {x y : Int32} (hd : decode (xmb m) pc = .ok (.irem, 1)) (hne : ¬ y = 0) (k : Gx l E m R (pc + 1) M L (.int (x - x / y * y) :: st)) : Gx l E m R pc M L (.int y :: .int x :: st) := by
  intro p e s mi args below meth c H locs ls C hP hD hS hL
  exact lv_irem C.1 C.2.1 hd hne (k p e s mi args below meth c H locs ls C hP hD hS hL)
theorem Gx_iushr {x y : Int32} (hd : decode (xmb m) pc = .ok (.iushr, 1)) (k : Gx l E m R (pc + 1) M L (.int (x.toUInt32 >>> (y.toUInt32 &&& Int32.toUInt32 31)).toInt32 :: st)) : Gx l E m R pc M L (.int y :: .int x :: st) := by
  intro p e s mi args below meth c H locs ls C hP hD hS hL
  exact lv_iushr C.1 C.2.1 hd rfl (k p e s mi args below meth c H locs ls C hP hD hS hL)
theorem Gx_ineg {x : Int32} (hd : decode (xmb m) pc = .ok (.ineg, 1)) (k : Gx l E m R (pc + 1) M L (.int (-x) :: st)) : Gx l E m R pc M L (.int x :: st) := by
  intro p e s mi args below meth c H locs ls C hP hD hS hL
  exact lv_ineg C.1 C.2.1 hd (k p e s mi args below meth c H locs ls C hP hD hS hL)
theorem Gx_ladd {x y : Int64} (hd : decode (xmb m) pc = .ok (.ladd, 1)) (k : Gx l E m R (pc + 1) M L (.long (x + y) :: st)) : Gx l E m R pc M L (.long y :: .long x :: st) := by
  intro p e s mi args below meth c H locs ls C hP hD hS hL
  exact lv_ladd C.1 C.2.1 hd (k p e s mi args below meth c H locs ls C hP hD hS hL)
theorem Gx_lsub {x y : Int64} (hd : decode (xmb m) pc = .ok (.lsub, 1)) (k : Gx l E m R (pc + 1) M L (.long (x - y) :: st)) : Gx l E m R pc M L (.long y :: .long x :: st) := by
  intro p e s mi args below meth c H locs ls C hP hD hS hL
  exact lv_lsub C.1 C.2.1 hd (k p e s mi args below meth c H locs ls C hP hD hS hL)
theorem Gx_lmul {x y : Int64} (hd : decode (xmb m) pc = .ok (.lmul, 1)) (k : Gx l E m R (pc + 1) M L (.long (x * y) :: st)) : Gx l E m R pc M L (.long y :: .long x :: st) := by
  intro p e s mi args below meth c H locs ls C hP hD hS hL
  exact lv_lmul C.1 C.2.1 hd (k p e s mi args below meth c H locs ls C hP hD hS hL)
theorem Gx_ldiv {x y : Int64} (hd : decode (xmb m) pc = .ok (.ldiv, 1)) (hne : ¬ y = 0) (k : Gx l E m R (pc + 1) M L (.long (x / y) :: st)) : Gx l E m R pc M L (.long y :: .long x :: st) := by
  intro p e s mi args below meth c H locs ls C hP hD hS hL
  exact lv_ldiv C.1 C.2.1 hd hne (k p e s mi args below meth c H locs ls C hP hD hS hL)
theorem Gx_lrem {x y : Int64} (hd : decode (xmb m) pc = .ok (.lrem, 1)) (hne : ¬ y = 0) (k : Gx l E m R (pc + 1) M L (.long (x - x / y * y) :: st)) : Gx l E m R pc M L (.long y :: .long x :: st) := by
  intro p e s mi args below meth c H locs ls C hP hD hS hL
  exact lv_lrem C.1 C.2.1 hd hne (k p e s mi args below meth c H locs ls C hP hD hS hL)
theorem Gx_lcmp {x y : Int64} (hd : decode (xmb m) pc = .ok (.lcmp, 1)) (k : Gx l E m R (pc + 1) M L (.int (lg_cmp x y) :: st)) : Gx l E m R pc M L (.long y :: .long x :: st) := by
  intro p e s mi args below meth c H locs ls C hP hD hS hL
  exact W.lcmp C.1 C.2.1 hd (k p e s mi args below meth c H locs ls C hP hD hS hL)
theorem Gx_i2l {x : Int32} (hd : decode (xmb m) pc = .ok (.i2l, 1)) (k : Gx l E m R (pc + 1) M L (.long x.toInt64 :: st)) : Gx l E m R pc M L (.int x :: st) := by
  intro p e s mi args below meth c H locs ls C hP hD hS hL
  exact lv_i2l C.1 C.2.1 hd rfl (k p e s mi args below meth c H locs ls C hP hD hS hL)
theorem Gx_i2b {x : Int32} (hd : decode (xmb m) pc = .ok (.i2b, 1)) (k : Gx l E m R (pc + 1) M L (.int x.toInt8.toInt32 :: st)) : Gx l E m R pc M L (.int x :: st) := by
  intro p e s mi args below meth c H locs ls C hP hD hS hL
  exact lv_i2b C.1 C.2.1 hd rfl (k p e s mi args below meth c H locs ls C hP hD hS hL)
theorem Gx_i2c {x : Int32} (hd : decode (xmb m) pc = .ok (.i2c, 1)) (k : Gx l E m R (pc + 1) M L (.int (x.toUInt32 % 65536).toInt32 :: st)) : Gx l E m R pc M L (.int x :: st) := by
  intro p e s mi args below meth c H locs ls C hP hD hS hL
  exact lv_i2c C.1 C.2.1 hd rfl (k p e s mi args below meth c H locs ls C hP hD hS hL)
theorem Gx_iconst {n : Int} {v : Int32} (hd : decode (xmb m) pc = .ok (.iconst n, 1)) (hv : Int32.ofInt n = v) (k : Gx l E m R (pc + 1) M L (.int v :: st)) : Gx l E m R pc M L (st) := by
  intro p e s mi args below meth c H locs ls C hP hD hS hL
  exact lv_iconst C.1 C.2.1 hd hv (k p e s mi args below meth c H locs ls C hP hD hS hL)
theorem Gx_bipush {n : Int} {v : Int32} (hd : decode (xmb m) pc = .ok (.bipush n, 2)) (hv : (Int8.ofInt n).toInt32 = v) (k : Gx l E m R (pc + 2) M L (.int v :: st)) : Gx l E m R pc M L (st) := by
  intro p e s mi args below meth c H locs ls C hP hD hS hL
  exact lv_bipush C.1 C.2.1 hd hv (k p e s mi args below meth c H locs ls C hP hD hS hL)
theorem Gx_sipush {n : Int} {v : Int32} (hd : decode (xmb m) pc = .ok (.sipush n, 3)) (hv : (Int16.ofInt n).toInt32 = v) (k : Gx l E m R (pc + 3) M L (.int v :: st)) : Gx l E m R pc M L (st) := by
  intro p e s mi args below meth c H locs ls C hP hD hS hL
  exact lv_sipush C.1 C.2.1 hd hv (k p e s mi args below meth c H locs ls C hP hD hS hL)
theorem Gx_lconst {n : Fin 2} {v : Int64} (hd : decode (xmb m) pc = .ok (.lconst n, 1)) (hv : Int64.ofNat (n : Nat) = v) (k : Gx l E m R (pc + 1) M L (.long v :: st)) : Gx l E m R pc M L (st) := by
  intro p e s mi args below meth c H locs ls C hP hD hS hL
  exact lv_lconst C.1 C.2.1 hd hv (k p e s mi args below meth c H locs ls C hP hD hS hL)
theorem Gx_dup {v : Value} (hc : v.category = 1) (hd : decode (xmb m) pc = .ok (.dup, 1)) (k : Gx l E m R (pc + 1) M L (v :: v :: st)) : Gx l E m R pc M L (v :: st) := by
  intro p e s mi args below meth c H locs ls C hP hD hS hL
  exact lv_dup C.1 C.2.1 hd (by rw [xv_cat C.2.2.2.2.2.2.2.1.2.1.2.2.2.2.2.2.1]; exact hc) (k p e s mi args below meth c H locs ls C hP hD hS hL)
theorem Gx_pop {v : Value} (hc : v.category = 1) (hd : decode (xmb m) pc = .ok (.pop, 1)) (k : Gx l E m R (pc + 1) M L st) : Gx l E m R pc M L (v :: st) := by
  intro p e s mi args below meth c H locs ls C hP hD hS hL
  exact lv_pop C.1 C.2.1 hd (by rw [xv_cat C.2.2.2.2.2.2.2.1.2.1.2.2.2.2.2.2.1]; exact hc) (k p e s mi args below meth c H locs ls C hP hD hS hL)
theorem Gx_dup2 {v w : Value} (hc : v.category = 1) (hc2 : w.category = 1) (hd : decode (xmb m) pc = .ok (.dup2, 1)) (k : Gx l E m R (pc + 1) M L (v :: w :: v :: w :: st)) : Gx l E m R pc M L (v :: w :: st) := by
  intro p e s mi args below meth c H locs ls C hP hD hS hL
  exact lv_dup2_11 C.1 C.2.1 hd (by rw [xv_cat C.2.2.2.2.2.2.2.1.2.1.2.2.2.2.2.2.1]; exact hc) (by rw [xv_cat C.2.2.2.2.2.2.2.1.2.1.2.2.2.2.2.2.1]; exact hc2) (k p e s mi args below meth c H locs ls C hP hD hS hL)
theorem Gx_iload {i : Nat} {x : Int32} (hd : decode (xmb m) pc = .ok (.iload i, 2)) (hl : L[i]? = some (some (.int x))) (k : Gx l E m R (pc + 2) M L (.int x :: st)) : Gx l E m R pc M L st := by
  intro p e s mi args below meth c H locs ls C hP hD hS hL
  exact lv_iload C.1 C.2.1 hd (hL.2.2.2 i _ hl) (k p e s mi args below meth c H locs ls C hP hD hS hL)
theorem Gx_iload_n {i : Fin 4} {x : Int32} (hd : decode (xmb m) pc = .ok (.iload_n i, 1)) (hl : L[(i : Nat)]? = some (some (.int x))) (k : Gx l E m R (pc + 1) M L (.int x :: st)) : Gx l E m R pc M L st := by
  intro p e s mi args below meth c H locs ls C hP hD hS hL
  exact lv_iload_n C.1 C.2.1 hd rfl (hL.2.2.2 i _ hl) (k p e s mi args below meth c H locs ls C hP hD hS hL)
theorem Gx_lload {i : Nat} {x : Int64} (hd : decode (xmb m) pc = .ok (.lload i, 2)) (hl : L[i]? = some (some (.long x))) (k : Gx l E m R (pc + 2) M L (.long x :: st)) : Gx l E m R pc M L st := by
  intro p e s mi args below meth c H locs ls C hP hD hS hL
  exact lv_lload C.1 C.2.1 hd (hL.2.2.2 i _ hl) (k p e s mi args below meth c H locs ls C hP hD hS hL)
theorem Gx_lload_n {i : Fin 4} {x : Int64} (hd : decode (xmb m) pc = .ok (.lload_n i, 1)) (hl : L[(i : Nat)]? = some (some (.long x))) (k : Gx l E m R (pc + 1) M L (.long x :: st)) : Gx l E m R pc M L st := by
  intro p e s mi args below meth c H locs ls C hP hD hS hL
  exact lv_lload_n C.1 C.2.1 hd rfl (hL.2.2.2 i _ hl) (k p e s mi args below meth c H locs ls C hP hD hS hL)
theorem lv_nload {p : Program} {l : Launch} {e : Env} {R : Room} {s : State} {m : MethodId} {args : Array Value} {below : List Frame} {meth : Method} {c : Code} {H : Heap} {locs : List Loc} {cells slots : Nat} {Q : State → Prop} {cc : ByteArray} {pc : Nat} {ls : Array Slot} {rest : List Value} (hexec : p.tables.exec = Jvm.exec) (hb : c.code = cc) {k : Fin 4} (hdg : decode cc pc = .ok (.aload_n k, 1)) (hl : ls[(k : Nat)]? = some (.val .null)) (kk : W p l e R s m args below meth c H locs cells slots Q (F0 m (pc + 1) ls (.null :: rest))) : W p l e R s m args below meth c H locs cells slots Q (F0 m pc ls rest) := by
  intro T hT X
  obtain ⟨t, a, b⟩ := kk T hT X
  refine ⟨t, ?_, b⟩
  jvm_step X.here [X.here.top, hexec, hb, hdg, hl]
  exact ⟨rfl, a⟩
theorem Gx_aload_n {i : Fin 4} {x : Nat} (hd : decode (xmb m) pc = .ok (.aload_n i, 1)) (hl : L[(i : Nat)]? = some (some (.ref x))) (k : Gx l E m R (pc + 1) M L (.ref x :: st)) : Gx l E m R pc M L st := by
  intro p e s mi args below meth c H locs ls C hP hD hS hL
  have h1 := hL.2.2.2 i _ hl
  have h2 := k p e s mi args below meth c H locs ls C hP hD hS hL
  rw [List.map_cons] at h2
  by_cases hx : x = 103
  · subst hx
    have e1 : xv E (.ref 103) = xeS E := rfl
    rw [e1] at h1 h2
    rcases C.2.2.2.2.2.2.2.1.2.1.2.2.2.2.2.2.1 with h | ⟨t, h⟩
    · rw [h] at h1 h2
      exact lv_nload C.1 C.2.1 hd h1 h2
    · rw [h] at h1 h2
      exact lv_aload_n C.1 C.2.1 hd rfl h1 h2
  · rw [xv_ref hx] at h1 h2
    exact lv_aload_n C.1 C.2.1 hd rfl h1 h2
/-- a value of one word may be laid at place i -/
def xfree (L : List (Option Value)) (i : Nat) : Bool := decide (i < L.length) && (match i with | 0 => true | j + 1 => match L.getD j none with | some (.long _) => false | some (.double _) => false | _ => true)
theorem xfree_prev {L : List (Option Value)} {i j : Nat} {w : Value} (h : xfree L i = true) (hj : L[j]? = some (some w)) (hji : j + 1 = i) : ¬ w.category = 2 := by
  subst hji
  unfold xfree at h
  simp only [Bool.and_eq_true] at h
  have h2 := h.2
  rw [List.getD_eq_getElem?_getD, hj] at h2
  intro hc
  cases w <;> simp_all [Value.category]
def xpairs (E : xE) (L : List (Option Value)) : List (Nat × Value) := L.zipIdx.filterMap (fun q => q.1.map (fun v => (q.2, xv E v)))
theorem xpairs_in {E : xE} {L : List (Option Value)} {q : Nat × Value} : q ∈ xpairs E L ↔ ∃ v, L[q.1]? = some (some v) ∧ q.2 = xv E v := by
  unfold xpairs
  simp only [List.mem_filterMap, Option.map_eq_some_iff]
  constructor
  · rintro ⟨⟨o, i⟩, h1, v, h2, rfl⟩
    have := List.mem_zipIdx_iff_getElem?.mp h1
    simp only at this h2
    exact ⟨v, by rw [this, h2], rfl⟩
  · rintro ⟨v, h1, h2⟩
    exact ⟨(some v, q.1), List.mem_zipIdx_iff_getElem?.mpr (by simpa using h1), v, rfl, by rw [← h2]⟩
theorem xL_has {E : xE} {nL : Nat} {ls : Array Slot} {L : List (Option Value)} (h : xL E nL ls L) : lv_has ls nL (xpairs E L) := by
  refine ⟨h.2.1, h.2.2.1, fun q hq => ?_⟩
  obtain ⟨v, h1, h2⟩ := xpairs_in.mp hq
  rw [h2]
  exact h.2.2.2 _ _ h1
theorem xL_put1 {E : xE} {nL i : Nat} {ls ls' : Array Slot} {L : List (Option Value)} {v : Value} (hL : xL E nL ls L) (hS : xeS E = .null ∨ ∃ t, xeS E = .ref t) (hf : xfree L i = true) (h : lv_has ls' nL ((i, xv E v) :: (xpairs E L).filter (fun q => !(q.1 == i) && !(q.1 + 1 == i && q.2.category == 2)))) : xL E nL ls' (L.set i (some v)) := by
  refine ⟨by rw [List.length_set]; exact hL.1, h.1, h.2.1, fun j w hj => ?_⟩
  rw [List.getElem?_set] at hj
  by_cases hji : i = j
  · subst hji
    rw [if_pos rfl] at hj
    split at hj
    · simp only [Option.some.injEq] at hj
      subst hj
      exact h.2.2 _ List.mem_cons_self
    · cases hj
  · rw [if_neg hji] at hj
    refine h.2.2 (j, xv E w) (List.mem_cons_of_mem _ (List.mem_filter.mpr ⟨xpairs_in.mpr ⟨w, hj, rfl⟩, ?_⟩))
    have h2 : ¬ (j + 1 = i ∧ (xv E w).category = 2) := fun z => xfree_prev hf hj z.1 (by rw [← xv_cat hS]; exact z.2)
    have h3 : ¬ j = i := fun z => hji z.symm
    simp only [Bool.and_eq_true, Bool.not_eq_true', beq_eq_false_iff_ne, ne_eq, Bool.and_eq_false_iff]
    refine ⟨h3, ?_⟩
    by_cases h4 : j + 1 = i
    · exact Or.inr (fun z => h2 ⟨h4, z⟩)
    · exact Or.inl h4
theorem xL_put2 {E : xE} {nL i : Nat} {ls ls' : Array Slot} {L : List (Option Value)} {v : Value} (hL : xL E nL ls L) (hS : xeS E = .null ∨ ∃ t, xeS E = .ref t) (hf : xfree L i = true) (h : lv_has ls' nL ((i, xv E v) :: (xpairs E L).filter (fun q => !(q.1 == i) && (!(q.1 == i + 1) && !(q.1 + 1 == i && q.2.category == 2))))) : xL E nL ls' ((L.set i (some v)).set (i + 1) none) := by
  refine ⟨by rw [List.length_set, List.length_set]; exact hL.1, h.1, h.2.1, fun j w hj => ?_⟩
  rw [List.getElem?_set] at hj
  by_cases hj1 : i + 1 = j
  · rw [if_pos hj1] at hj
    split at hj <;> cases hj
  · rw [if_neg hj1, List.getElem?_set] at hj
    by_cases hji : i = j
    · subst hji
      rw [if_pos rfl] at hj
      split at hj
      · simp only [Option.some.injEq] at hj
        subst hj
        exact h.2.2 _ List.mem_cons_self
      · cases hj
    · rw [if_neg hji] at hj
      refine h.2.2 (j, xv E w) (List.mem_cons_of_mem _ (List.mem_filter.mpr ⟨xpairs_in.mpr ⟨w, hj, rfl⟩, ?_⟩))
      have h2 : ¬ (j + 1 = i ∧ (xv E w).category = 2) := fun z => xfree_prev hf hj z.1 (by rw [← xv_cat hS]; exact z.2)
      have h3 : ¬ j = i := fun z => hji z.symm
      have h5 : ¬ j = i + 1 := fun z => hj1 z.symm
      simp only [Bool.and_eq_true, Bool.not_eq_true', beq_eq_false_iff_ne, ne_eq, Bool.and_eq_false_iff]
      refine ⟨h3, h5, ?_⟩
      by_cases h4 : j + 1 = i
      · exact Or.inr (fun z => h2 ⟨h4, z⟩)
      · exact Or.inl h4
theorem xfree_lt {L : List (Option Value)} {i : Nat} (h : xfree L i = true) : i < L.length := by
  unfold xfree at h
  simp only [Bool.and_eq_true, decide_eq_true_eq] at h
  exact h.1
theorem Gx_istore {i : Nat} {x : Int32} (hd : decode (xmb m) pc = .ok (.istore i, 2)) (hf : xfree L i = true) (k : Gx l E m R (pc + 2) M (L.set i (some (.int x))) st) : Gx l E m R pc M L (.int x :: st) := by
  intro p e s mi args below meth c H locs ls C hP hD hS hL
  exact lv_istore C.1 C.2.1 hd (xL_has hL) (by rw [← hL.1]; exact xfree_lt hf) rfl (fun ls' hl' => k p e s mi args below meth c H locs ls' C hP hD hS (xL_put1 (v := .int x) hL C.2.2.2.2.2.2.2.1.2.1.2.2.2.2.2.2.1 hf hl'))
theorem Gx_istore_n {i : Fin 4} {x : Int32} (hd : decode (xmb m) pc = .ok (.istore_n i, 1)) (hf : xfree L (i : Nat) = true) (k : Gx l E m R (pc + 1) M (L.set (i : Nat) (some (.int x))) st) : Gx l E m R pc M L (.int x :: st) := by
  intro p e s mi args below meth c H locs ls C hP hD hS hL
  exact lv_istore_n C.1 C.2.1 hd rfl (xL_has hL) (by rw [← hL.1]; exact xfree_lt hf) rfl (fun ls' hl' => k p e s mi args below meth c H locs ls' C hP hD hS (xL_put1 (v := .int x) hL C.2.2.2.2.2.2.2.1.2.1.2.2.2.2.2.2.1 hf hl'))
theorem Gx_lstore {i : Nat} {x : Int64} (hd : decode (xmb m) pc = .ok (.lstore i, 2)) (hf : xfree L i = true) (h2 : i + 1 < L.length) (k : Gx l E m R (pc + 2) M ((L.set i (some (.long x))).set (i + 1) none) st) : Gx l E m R pc M L (.long x :: st) := by
  intro p e s mi args below meth c H locs ls C hP hD hS hL
  exact lv_lstore C.1 C.2.1 hd (xL_has hL) (by rw [← hL.1]; exact h2) rfl (fun ls' hl' => k p e s mi args below meth c H locs ls' C hP hD hS (xL_put2 (v := .long x) hL C.2.2.2.2.2.2.2.1.2.1.2.2.2.2.2.2.1 hf hl'))
theorem Gx_lstore_n {i : Fin 4} {x : Int64} (hd : decode (xmb m) pc = .ok (.lstore_n i, 1)) (hf : xfree L (i : Nat) = true) (h2 : (i : Nat) + 1 < L.length) (k : Gx l E m R (pc + 1) M ((L.set (i : Nat) (some (.long x))).set ((i : Nat) + 1) none) st) : Gx l E m R pc M L (.long x :: st) := by
  intro p e s mi args below meth c H locs ls C hP hD hS hL
  exact lv_lstore_n C.1 C.2.1 hd rfl (xL_has hL) (by rw [← hL.1]; exact h2) rfl (fun ls' hl' => k p e s mi args below meth c H locs ls' C hP hD hS (xL_put2 (v := .long x) hL C.2.2.2.2.2.2.2.1.2.1.2.2.2.2.2.2.1 hf hl'))
theorem Gx_astore_n {i : Fin 4} {x : Nat} (hx : x ≠ 103) (hd : decode (xmb m) pc = .ok (.astore_n i, 1)) (hf : xfree L (i : Nat) = true) (k : Gx l E m R (pc + 1) M (L.set (i : Nat) (some (.ref x))) st) : Gx l E m R pc M L (.ref x :: st) := by
  intro p e s mi args below meth c H locs ls C hP hD hS hL
  rw [List.map_cons, xv_ref hx]
  exact lv_astore_n C.1 C.2.1 hd rfl (xL_has hL) (by rw [← hL.1]; exact xfree_lt hf) rfl (fun ls' hl' => k p e s mi args below meth c H locs ls' C hP hD hS (xL_put1 (v := .ref x) hL C.2.2.2.2.2.2.2.1.2.1.2.2.2.2.2.2.1 hf (by rw [xv_ref hx]; exact hl')))
theorem Gx_iinc {i : Nat} {n : Int} {x v : Int32} (hd : decode (xmb m) pc = .ok (.iinc i n, 3)) (hv : Int32.ofInt n = v) (hl : L[i]? = some (some (.int x))) (hf : xfree L i = true) (k : Gx l E m R (pc + 3) M (L.set i (some (.int (x + v)))) st) : Gx l E m R pc M L st := by
  intro p e s mi args below meth c H locs ls C hP hD hS hL
  have hm : (i, xv E (.int x)) ∈ xpairs E L := xpairs_in.mpr ⟨.int x, hl, rfl⟩
  obtain ⟨kx, hk⟩ := List.getElem?_of_mem hm
  exact lv_iinc (k := kx) (v := x + v) C.1 C.2.1 hd (xL_has hL) hk (by rw [hv]) (by rw [← hL.1]; exact xfree_lt hf) rfl (fun ls' hl' => k p e s mi args below meth c H locs ls' C hP hD hS (xL_put1 (v := .int (x + v)) hL C.2.2.2.2.2.2.2.1.2.1.2.2.2.2.2.2.1 hf hl'))
end XI
