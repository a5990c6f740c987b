/-! contracts over the abstract machine, and the judgement Gx: 'from this abstract state the method comes to an end with R' -/
abbrev xMt : Type := MethodName × Nat × ByteArray × Nat × Option FieldType × Nat
abbrev xmy (m : xMt) : MethodName := m.1
abbrev xmo (m : xMt) : Nat := m.2.1
abbrev xmb (m : xMt) : ByteArray := m.2.2.1
abbrev xmn (m : xMt) : Nat := m.2.2.2.1
abbrev xmr (m : xMt) : Option FieldType := m.2.2.2.2.1
abbrev xmd (m : xMt) : Nat := m.2.2.2.2.2
def xR (d : Nat) : Room := { frames := d, cells := 0, slots := 0, locals := 39 * d }
def xWd (m : xMt) : List Cond := .code (xmy m) (xmb m) (xmn m) (xmr m) :: xTbl
def xW (E : xE) (M : xM) (U : State) : Prop := va_P (xeD E) vwCl (xws E M) U.heap ∧ va_D (xA E) (xws E M)
def xQ (E : xE) (R : Option Value → xM → Prop) : Array Value → State → Outcome → State → Prop := fun _ st o t => (∃ (r : Option Value) (M' : xM), o = .returned (r.map (xv E)) ∧ R r M' ∧ xW E M' t) ∧ va_F (xA E) st t
def xPre (E : xE) (M : xM) (U : State) : Prop := xW E M U ∧ xK E U U.heap ∧ xeB E ≤ U.heap.size
def Ct (l : Launch) (E : xE) (m : xMt) (args : List Value) (M : xM) (R : Option Value → xM → Prop) : Prop := Met l (xmy m) (xWd m) (xR (xmd m)) (va_Pc (args.map (xv E)) (xPre E M)) (xQ E R) 0 0 (xA E)
/-- the locals: what is known of each place -/
def xL (E : xE) (nL : Nat) (ls : Array Slot) (L : List (Option Value)) : Prop := L.length = nL ∧ ls.size = nL ∧ lv_wf ls ∧ ∀ (i : Nat) (v : Value), L[i]? = some (some v) → ls[i]? = some (Slot.val (xv E v))
def xCtx (m : xMt) (E : xE) (p : Program) (s : State) (mi : MethodId) (args : Array Value) (meth : Method) (c : Code) : Prop := p.tables.exec = Jvm.exec ∧ c.code = xmb m ∧ c.maxLocals = xmn m ∧ meth.sig.returnType = xmr m ∧ meth.locks = false ∧ s.vm.findClass (xown (xmo m)) = some mi.cls ∧ (∀ w ∈ xTbl, w.before args s = true) ∧ xK E s s.heap ∧ xeB E ≤ s.heap.size
def Gx (l : Launch) (E : xE) (m : xMt) (R : Option Value → xM → Prop) (pc : Nat) (M : xM) (L : List (Option Value)) (st : List Value) : Prop :=
  ∀ (p : Program) (e : Env) (s : State) (mi : MethodId) (args : Array Value) (below : List Frame) (meth : Method) (c : Code) (H : Heap) (locs : List Loc) (ls : Array Slot),
    xCtx m E p s mi args meth c → va_P (xeD E) vwCl (xws E M) H → va_D (xA E) (xws E M) → va_S (xA E) s.heap H locs → xL E (xmn m) ls L →
    W p l e (xR (xmd m)) s mi args below meth c H locs 0 0 (MQ below (xQ E R) args s 0 0 (xA E)) (F0 mi pc ls (st.map (xv E)))
section XR
variable {l : Launch} {E : xE} {m : xMt} {R : Option Value → xM → Prop} {pc : Nat} {M : xM} {L : List (Option Value)} {st : List Value}
-- the end
theorem Gx_iret {x : Int32} {ty : FieldType} (hd : decode (xmb m) pc = .ok (.ireturn, 1)) (hr : xmr m = some ty) (hn : narrow ty (.int x) = .int x) (h : R (some (.int x)) M) : Gx l E m R pc M L [.int x] := by
  intro p e s mi args below meth c H locs ls C hP hD hS hL
  obtain ⟨hx, hb, hml, hrt, hlk, hown, hts, hK, hB⟩ := C
  exact W.zret hx hb (hrt.trans hr) hn (fun t ht hW => ⟨⟨some (.int x), M, rfl, h, by rw [ht]; exact hP, hD⟩, hS.F ht⟩) hS.2.2 hd hlk
theorem Gx_lret {x : Int64} (hd : decode (xmb m) pc = .ok (.lreturn, 1)) (hr : xmr m = some .long) (h : R (some (.long x)) M) : Gx l E m R pc M L [.long x] := by
  intro p e s mi args below meth c H locs ls C hP hD hS hL
  obtain ⟨hx, hb, hml, hrt, hlk, hown, hts, hK, hB⟩ := C
  exact W.lret hx hb (hrt.trans hr) (fun t ht hW => ⟨⟨some (.long x), M, rfl, h, by rw [ht]; exact hP, hD⟩, hS.F ht⟩) hS.2.2 hd hlk
theorem Gx_vret (hd : decode (xmb m) pc = .ok (.return_, 1)) (hr : xmr m = none) (h : R none M) : Gx l E m R pc M L [] := by
  intro p e s mi args below meth c H locs ls C hP hD hS hL
  obtain ⟨hx, hb, hml, hrt, hlk, hown, hts, hK, hB⟩ := C
  exact W.vret hx hb (hrt.trans hr) (fun t ht hW => ⟨⟨none, M, rfl, h, by rw [ht]; exact hP, hD⟩, hS.F ht⟩) hS.2.2 hd hlk
theorem Gx_aret {x : Nat} {n : String} (hd : decode (xmb m) pc = .ok (.areturn, 1)) (hr : xmr m = some (.object n)) (hx0 : x ≠ 103) (h : R (some (.ref x)) M) : Gx l E m R pc M L [.ref x] := by
  intro p e s mi args below meth c H locs ls C hP hD hS hL
  obtain ⟨hx, hb, hml, hrt, hlk, hown, hts, hK, hB⟩ := C
  have e1 : List.map (xv E) [Value.ref x] = [.ref (xeA E x)] := by simp [xv_ref hx0]
  rw [e1]
  exact W.aret hx hb (hrt.trans hr) (Or.inl ⟨n, rfl⟩) (Or.inr ⟨_, rfl⟩) (fun t ht hW => ⟨⟨some (.ref x), M, by simp [xv_ref hx0], h, by rw [ht]; exact hP, hD⟩, hS.F ht⟩) hS.2.2 hd hlk
-- branches
theorem Gx_goto {off : Int} {tgt : Nat} (hd : decode (xmb m) pc = .ok (.goto off, 3)) (ht : (pc : Int) + off = (tgt : Int)) (k : Gx l E m R tgt M L st) : Gx l E m R pc M L st := by
  intro p e s mi args below meth c H locs ls C hP hD hS hL
  exact lv_goto C.1 C.2.1 hd ht (k p e s mi args below meth c H locs ls C hP hD hS hL)
theorem Gx_if_eq {x : Int32} {off : Int} {tgt : Nat} (hd : decode (xmb m) pc = .ok (.ifCond .eq off, 3)) (ht : (pc : Int) + off = (tgt : Int)) (kt : x = 0 → Gx l E m R tgt M L st) (kf : ¬ x = 0 → Gx l E m R (pc + 3) M L st) : Gx l E m R pc M L (.int x :: st) := by
  intro p e s mi args below meth c H locs ls C hP hD hS hL
  exact lv_if_eq C.1 C.2.1 hd ht (fun h => kt h p e s mi args below meth c H locs ls C hP hD hS hL) (fun h => kf h p e s mi args below meth c H locs ls C hP hD hS hL)
theorem Gx_icmp_eq {x y : Int32} {off : Int} {tgt : Nat} (hd : decode (xmb m) pc = .ok (.if_icmp .eq off, 3)) (ht : (pc : Int) + off = (tgt : Int)) (kt : x = y → Gx l E m R tgt M L st) (kf : ¬ x = y → Gx l E m R (pc + 3) M L st) : Gx l E m R pc M L (.int y :: .int x :: st) := by
  intro p e s mi args below meth c H locs ls C hP hD hS hL
  exact lv_icmp_eq C.1 C.2.1 hd ht (fun h => kt h p e s mi args below meth c H locs ls C hP hD hS hL) (fun h => kf h p e s mi args below meth c H locs ls C hP hD hS hL)
theorem Gx_if_ne {x : Int32} {off : Int} {tgt : Nat} (hd : decode (xmb m) pc = .ok (.ifCond .ne off, 3)) (ht : (pc : Int) + off = (tgt : Int)) (kt : ¬ x = 0 → Gx l E m R tgt M L st) (kf : x = 0 → Gx l E m R (pc + 3) M L st) : Gx l E m R pc M L (.int x :: st) := by
  intro p e s mi args below meth c H locs ls C hP hD hS hL
  exact lv_if_ne C.1 C.2.1 hd ht (fun h => kt h p e s mi args below meth c H locs ls C hP hD hS hL) (fun h => kf h p e s mi args below meth c H locs ls C hP hD hS hL)
theorem Gx_icmp_ne {x y : Int32} {off : Int} {tgt : Nat} (hd : decode (xmb m) pc = .ok (.if_icmp .ne off, 3)) (ht : (pc : Int) + off = (tgt : Int)) (kt : ¬ x = y → Gx l E m R tgt M L st) (kf : x = y → Gx l E m R (pc + 3) M L st) : Gx l E m R pc M L (.int y :: .int x :: st) := by
  intro p e s mi args below meth c H locs ls C hP hD hS hL
  exact lv_icmp_ne C.1 C.2.1 hd ht (fun h => kt h p e s mi args below meth c H locs ls C hP hD hS hL) (fun h => kf h p e s mi args below meth c H locs ls C hP hD hS hL)
theorem Gx_if_lt {x : Int32} {off : Int} {tgt : Nat} (hd : decode (xmb m) pc = .ok (.ifCond .lt off, 3)) (ht : (pc : Int) + off = (tgt : Int)) (kt : x < 0 → Gx l E m R tgt M L st) (kf : ¬ x < 0 → Gx l E m R (pc + 3) M L st) : Gx l E m R pc M L (.int x :: st) := by
  intro p e s mi args below meth c H locs ls C hP hD hS hL
  exact lv_if_lt C.1 C.2.1 hd ht (fun h => kt h p e s mi args below meth c H locs ls C hP hD hS hL) (fun h => kf h p e s mi args below meth c H locs ls C hP hD hS hL)
theorem Gx_icmp_lt {x y : Int32} {off : Int} {tgt : Nat} (hd : decode (xmb m) pc = .ok (.if_icmp .lt off, 3)) (ht : (pc : Int) + off = (tgt : Int)) (kt : x < y → Gx l E m R tgt M L st) (kf : ¬ x < y → Gx l E m R (pc + 3) M L st) : Gx l E m R pc M L (.int y :: .int x :: st) := by
  intro p e s mi args below meth c H locs ls C hP hD hS hL
  exact lv_icmp_lt C.1 C.2.1 hd ht (fun h => kt h p e s mi args below meth c H locs ls C hP hD hS hL) (fun h => kf h p e s mi args below meth c H locs ls C hP hD hS hL)
theorem Gx_if_ge {x : Int32} {off : Int} {tgt : Nat} (hd : decode (xmb m) pc = .ok (.ifCond .ge off, 3)) (ht : (pc : Int) + off = (tgt : Int)) (kt : 0 ≤ x → Gx l E m R tgt M L st) (kf : ¬ 0 ≤ x → Gx l E m R (pc + 3) M L st) : Gx l E m R pc M L (.int x :: st) := by
  intro p e s mi args below meth c H locs ls C hP hD hS hL
  exact lv_if_ge C.1 C.2.1 hd ht (fun h => kt h p e s mi args below meth c H locs ls C hP hD hS hL) (fun h => kf h p e s mi args below meth c H locs ls C hP hD hS hL)
theorem Gx_icmp_ge {x y : Int32} {off : Int} {tgt : Nat} (hd : decode (xmb m) pc = .ok (.if_icmp .ge off, 3)) (ht : (pc : Int) + off = (tgt : Int)) (kt : y ≤ x → Gx l E m R tgt M L st) (kf : ¬ y ≤ x → Gx l E m R (pc + 3) M L st) : Gx l E m R pc M L (.int y :: .int x :: st) := by
  intro p e s mi args below meth c H locs ls C hP hD hS hL
  exact lv_icmp_ge C.1 C.2.1 hd ht (fun h => kt h p e s mi args below meth c H locs ls C hP hD hS hL) (fun h => kf h p e s mi args below meth c H locs ls C hP hD hS hL)
theorem Gx_if_gt {x : Int32} {off : Int} {tgt : Nat} (hd : decode (xmb m) pc = .ok (.ifCond .gt off, 3)) (ht : (pc : Int) + off = (tgt : Int)) (kt : 0 < x → Gx l E m R tgt M L st) (kf : ¬ 0 < x → Gx l E m R (pc + 3) M L st) : Gx l E m R pc M L (.int x :: st) := by
  intro p e s mi args below meth c H locs ls C hP hD hS hL
  exact lv_if_gt C.1 C.2.1 hd ht (fun h => kt h p e s mi args below meth c H locs ls C hP hD hS hL) (fun h => kf h p e s mi args below meth c H locs ls C hP hD hS hL)
theorem Gx_icmp_gt {x y : Int32} {off : Int} {tgt : Nat} (hd : decode (xmb m) pc = .ok (.if_icmp .gt off, 3)) (ht : (pc : Int) + off = (tgt : Int)) (kt : y < x → Gx l E m R tgt M L st) (kf : ¬ y < x → Gx l E m R (pc + 3) M L st) : Gx l E m R pc M L (.int y :: .int x :: st) := by
  intro p e s mi args below meth c H locs ls C hP hD hS hL
  exact lv_icmp_gt C.1 C.2.1 hd ht (fun h => kt h p e s mi args below meth c H locs ls C hP hD hS hL) (fun h => kf h p e s mi args below meth c H locs ls C hP hD hS hL)
theorem Gx_if_le {x : Int32} {off : Int} {tgt : Nat} (hd : decode (xmb m) pc = .ok (.ifCond .le off, 3)) (ht : (pc : Int) + off = (tgt : Int)) (kt : x ≤ 0 → Gx l E m R tgt M L st) (kf : ¬ x ≤ 0 → Gx l E m R (pc + 3) M L st) : Gx l E m R pc M L (.int x :: st) := by
  intro p e s mi args below meth c H locs ls C hP hD hS hL
  exact lv_if_le C.1 C.2.1 hd ht (fun h => kt h p e s mi args below meth c H locs ls C hP hD hS hL) (fun h => kf h p e s mi args below meth c H locs ls C hP hD hS hL)
theorem Gx_icmp_le {x y : Int32} {off : Int} {tgt : Nat} (hd : decode (xmb m) pc = .ok (.if_icmp .le off, 3)) (ht : (pc : Int) + off = (tgt : Int)) (kt : x ≤ y → Gx l E m R tgt M L st) (kf : ¬ x ≤ y → Gx l E m R (pc + 3) M L st) : Gx l E m R pc M L (.int y :: .int x :: st) := by
  intro p e s mi args below meth c H locs ls C hP hD hS hL
  exact lv_icmp_le C.1 C.2.1 hd ht (fun h => kt h p e s mi args below meth c H locs ls C hP hD hS hL) (fun h => kf h p e s mi args below meth c H locs ls C hP hD hS hL)
theorem Gx_lookup {dflt : Int} {ps : Array (Int × Int)} {len : Nat} {x : Int32} {off : Int} {tgt : Nat} (hd : decode (xmb m) pc = .ok (.lookupswitch dflt ps, len)) (hp : (ps.toList.zip (ps.toList.drop 1)).all (fun (a, next) => a.1 < next.1) = true) (ho : Op.lookupswitch.offset ps.toList dflt x.toInt = off) (ht : (pc : Int) + off = (tgt : Int)) (k : Gx l E m R tgt M L st) : Gx l E m R pc M L (.int x :: st) := by
  intro p e s mi args below meth c H locs ls C hP hD hS hL
  exact lv_lookup C.1 C.2.1 hd hp ho ht (k p e s mi args below meth c H locs ls C hP hD hS hL)
theorem Gx_tableOut {dflt lo hi : Int} {offs : Array Int} {len : Nat} {x : Int32} {tgt : Nat} (hd : decode (xmb m) pc = .ok (.tableswitch dflt lo hi offs, len)) (h : x.toInt < lo ∨ hi < x.toInt) (ht : (pc : Int) + dflt = (tgt : Int)) (k : Gx l E m R tgt M L st) : Gx l E m R pc M L (.int x :: st) := by
  intro p e s mi args below meth c H locs ls C hP hD hS hL
  exact lv_tableOut C.1 C.2.1 hd h ht (k p e s mi args below meth c H locs ls C hP hD hS hL)
theorem Gx_tableIn {dflt lo hi : Int} {offs : Array Int} {len : Nat} {x : Int32} {off : Int} {tgt : Nat} (hd : decode (xmb m) pc = .ok (.tableswitch dflt lo hi offs, len)) (h1 : ¬ x.toInt < lo) (h2 : ¬ hi < x.toInt) (ho : offs[(x.toInt - lo).toNat]? = some off) (ht : (pc : Int) + off = (tgt : Int)) (k : Gx l E m R tgt M L st) : Gx l E m R pc M L (.int x :: st) := by
  intro p e s mi args below meth c H locs ls C hP hD hS hL
  exact lv_tableIn C.1 C.2.1 hd h1 h2 ho ht (k p e s mi args below meth c H locs ls C hP hD hS hL)
end XR
-- the way in
def xent : List Value → List (Option Value)
  | [] => []
  | v :: vs => if v.category = 2 then some v :: none :: xent vs else some v :: xent vs
def xin (args : List Value) (n : Nat) : List (Option Value) := xent args ++ List.replicate (n - (xent args).length) none
theorem xv_cat {E : xE} (hS : xeS E = .null ∨ ∃ t, xeS E = .ref t) (v : Value) : (xv E v).category = v.category := by
  cases v with
  | ref k =>
    show (if k = 103 then xeS E else .ref (xeA E k)).category = _
    by_cases hk : k = 103
    · rw [if_pos hk]
      rcases hS with h | ⟨t, h⟩ <;> rw [h] <;> rfl
    · rw [if_neg hk]; rfl
  | _ => rfl
theorem xent_len {E : xE} (hS : xeS E = .null ∨ ∃ t, xeS E = .ref t) (vs : List Value) : (lg_sl (vs.map (xv E))).length = (xent vs).length := by
  induction vs with
  | nil => rfl
  | cons v vs ih =>
    have e1 : lg_sl (List.map (xv E) (v :: vs)) = (if (xv E v).category = 2 then [Slot.val (xv E v), Slot.second] else [Slot.val (xv E v)]) ++ lg_sl (vs.map (xv E)) := by simp [lg_sl]
    rw [e1, List.length_append, ih, xv_cat hS, xent]
    split
    · simp only [List.length_cons, List.length_nil]; omega
    · simp only [List.length_cons, List.length_nil]; omega
theorem xent_args {E : xE} (hS : xeS E = .null ∨ ∃ t, xeS E = .ref t) (vs : List Value) : ∀ (k i : Nat) (v : Value), (xent vs)[i]? = some (some v) → (k + i, xv E v) ∈ lv_args k (vs.map (xv E)) := by
  induction vs with
  | nil => intro k i v h; simp [xent] at h
  | cons w vs ih =>
    intro k i v h
    rw [List.map_cons]
    rw [lv_args, xv_cat hS]
    rw [xent] at h
    split at h
    · rename_i hc
      rw [if_pos hc]
      match i, h with
      | 0, h => simp only [List.getElem?_cons_zero, Option.some.injEq] at h; subst h; exact List.mem_cons_self
      | 1, h => simp at h
      | i + 2, h =>
        have := ih (k + 2) i v (by simpa using h)
        exact List.mem_cons_of_mem _ (by rwa [show k + (i + 2) = k + 2 + i by omega])
    · rename_i hc
      rw [if_neg hc]
      match i, h with
      | 0, h => simp only [List.getElem?_cons_zero, Option.some.injEq] at h; subst h; exact List.mem_cons_self
      | i + 1, h =>
        have := ih (k + 1) i v (by simpa using h)
        exact List.mem_cons_of_mem _ (by rwa [show k + (i + 1) = k + 1 + i by omega])
theorem xin_has {E : xE} (hS : xeS E = .null ∨ ∃ t, xeS E = .ref t) {vs : List Value} {n : Nat} (h : (xent vs).length ≤ n) : xL E n ((lg_sl (vs.map (xv E)) ++ List.replicate (n - (lg_sl (vs.map (xv E))).length) Slot.unset).toArray) (xin vs n) := by
  obtain ⟨h1, h2, h3⟩ := lv_entry (vs.map (xv E)) (n := n) (by rw [xent_len hS]; exact h)
  refine ⟨by unfold xin; rw [List.length_append, List.length_replicate]; omega, h1, h2, fun i v hv => ?_⟩
  unfold xin at hv
  rcases Nat.lt_or_ge i (xent vs).length with q | q
  · rw [List.getElem?_append_left q] at hv
    have := h3 _ (xent_args hS vs 0 i v hv)
    simpa using this
  · rw [List.getElem?_append_right q] at hv
    have := List.eq_of_mem_replicate (List.mem_of_getElem? hv)
    cases this
theorem Ct_of {l : Launch} {E : xE} {m : xMt} {vs : List Value} {M : xM} {R : Option Value → xM → Prop} (hy : plainName (xmy m).cls = true) (ho : (xmy m).cls = xown (xmo m)) (hn : (xent vs).length ≤ xmn m) (k : Gx l E m R 0 M (xin vs (xmn m)) []) : Ct l E m vs M R := by
  refine Met.ofW (cc := xmb m) (maxL := xmn m) (ret := xmr m) (ws' := xTbl) hy rfl ?_
  intro p e s mi args below meth c s₁ B hml hv
  obtain ⟨rfl, ⟨hP, hD⟩, hK, hB⟩ := hv
  have hts := atoms_spec (ws := xWd m) B.pre
  have hown : s.vm.findClass (xmy m).cls = some mi.cls := findClass_of_methodNamed B.named
  have hSi := hK.2.1.2.2.2.2.2.2.1
  rw [lg_entry_eq]
  exact k p e s mi _ below meth c s.heap [] _ ⟨B.exec, B.bytes, hml, B.returns, B.notSynchronized, ho ▸ hown, fun w h => hts w (List.mem_cons_of_mem _ h), hK, hB⟩ hP hD va_S.rf (xin_has hSi hn)
