/-! AN ABSTRACT MACHINE: addresses are places (0 .. 59 the objects and rows of the system, 100 ff. what is static), all else are ints in slots. Its steps are sound over the kit's W. -/
-- the tables' words that stay
def xTbl : List Cond := lw_tbl.filter goodWord
theorem xTbl_in {w : Cond} (i : Nat) (h : lw_tbl[i]? = some w) (g : goodWord w = true) : w ∈ xTbl := List.mem_filter.mpr ⟨List.mem_of_getElem? h, g⟩
theorem xTbl_good : ∀ w ∈ xTbl, (w.onTables && w.keeps) = true ∨ ∃ ty, w = .arrayClass ty := fun _ h => good_of_word (List.mem_filter.mp h).2
theorem xTbl_sub : ∀ w ∈ xTbl, w ∈ lw_tbl := fun _ h => (List.mem_filter.mp h).1
-- memory: places, slots
abbrev xM : Type := Nat → Nat → Int32
/-- fields' and addresses' table, addresses of places, the class of int rows, the least address that is the system's own, the formatter's value -/
abbrev xE : Type := va_G × (Nat → Nat) × ClassId × Nat × Value
abbrev xeD (E : xE) : va_G := E.1
abbrev xeA (E : xE) : Nat → Nat := E.2.1
abbrev xeC (E : xE) : ClassId := E.2.2.1
abbrev xeB (E : xE) : Nat := E.2.2.2.1
abbrev xeS (E : xE) : Value := E.2.2.2.2
def xv (E : xE) : Value → Value
  | .ref k => if k = 103 then xeS E else .ref (xeA E k)
  | v => v
theorem xv_int (E : xE) (x : Int32) : xv E (.int x) = .int x := rfl
theorem xv_long (E : xE) (x : Int64) : xv E (.long x) = .long x := rfl
theorem xv_ref {E : xE} {k : Nat} (h : k ≠ 103) : xv E (.ref k) = .ref (xeA E k) := by simp [xv, h]
-- the layout: kinds of places (0 Check, 1 Letters, 2 Volume, 3 the class, 4 the reference, 5 a row of ints), rows' lengths
def xkdL : List Nat := [3, 2,5,5,5,5,5,5, 2,5,5,5,5,5,5, 2,5,5,5,5,5,5, 0,2,5,5,5,5,5,5,5,5,5,5, 0,2,5,5,5,5,5,5,5,5,5,5, 1,5, 5,5, 4,5,5,5,5,5,5,5,5,5]
def xlnL : List Nat := [0, 0,10,10,10,30,60,24, 0,10,10,10,30,60,24, 0,10,10,10,30,60,24, 0,0,10,10,10,30,60,24,180,180,180,10, 0,0,10,10,10,30,60,24,180,180,180,10, 0,96, 32,7, 0,147,147,147,17,96,400,400,400,32]
def xkd (p : Nat) : Nat := xkdL.getD p 9
def xln (p : Nat) : Nat := xlnL.getD p 0
-- an object's slot: how far from it the place lies that it refers to; none: an int
def xfoL : List (List (Option Nat)) := [[some 1, some 8, some 9, some 10, none, some 11, none], [some 1, none], [some 1, some 2, some 3, some 4, some 5, some 6, none, none], [some 1, some 8, some 15, none, none, some 22, some 34, some 46, some 48, none, some 49, none, none], [none, some 1, some 2, some 3, none, some 4, some 5, none, none, none, none, some 6, some 7, some 8, none, some 9, none, none]]
def xnf (ci : Nat) : Nat := (xfoL.getD ci []).length
def xfo (ci k : Nat) : Option Nat := (xfoL.getD ci []).getD k none
def xfv (E : xE) (M : xM) (p ci k : Nat) : Value := match xfo ci k with | some o => .ref (xeA E (p + o)) | none => .int (M p k)
def xfs (E : xE) (M : xM) (p ci : Nat) : List Value := (List.range (xnf ci)).map (xfv E M p ci)
def xcell (E : xE) (M : xM) (p : Nat) : va_E := if xkd p = 5 then .inl (xeC E, xln p, .inl (M p)) else .inr (xkd p, xfs E M p (xkd p))
def xws (E : xE) (M : xM) : va_W := (List.range 60).map (fun p => (xeA E p, xcell E M p))
def xup (M : xM) (p k : Nat) (x : Int32) : xM := fun a => if a = p then upd (M p) k x else M a
theorem xup_at (M : xM) (p k : Nat) (x : Int32) : xup M p k x p = upd (M p) k x := by simp [xup]
theorem xup_ne (M : xM) {p a : Nat} (k : Nat) (x : Int32) (h : a ≠ p) : xup M p k x a = M a := by simp [xup, h]
theorem xkd_lt {p : Nat} (h : xkd p ≠ 9) : p < 60 := by
  rcases Nat.lt_or_ge p 60 with q | q
  · exact q
  · exact absurd (by simp [xkd, xkdL, List.getD_eq_getElem?_getD, List.getElem?_eq_none (l := [3, 2,5,5,5,5,5,5, 2,5,5,5,5,5,5, 2,5,5,5,5,5,5, 0,2,5,5,5,5,5,5,5,5,5,5, 0,2,5,5,5,5,5,5,5,5,5,5, 1,5, 5,5, 4,5,5,5,5,5,5,5,5,5]) (i := p) (by simpa using q)]) h
theorem xws_get (E : xE) (M : xM) {p : Nat} (h : p < 60) : (xws E M)[p]? = some (xeA E p, xcell E M p) := by simp [xws, h]
theorem xws_set (E : xE) (M M' : xM) {p : Nat} {e : va_E} (_h : p < 60) (ho : ∀ a, a ≠ p → M' a = M a) (he : xcell E M' p = e) : (xws E M).set p (xeA E p, e) = xws E M' := by
  apply List.ext_getElem?
  intro i
  rw [List.getElem?_set]
  by_cases hi : p = i
  · subst hi
    simp [xws, he, _h]
  · simp only [xws, List.getElem?_map, hi, if_false]
    by_cases h2 : i < 60
    · simp only [List.getElem?_range h2, Option.map_some]
      have h3 : M' i = M i := ho i (fun z => hi z.symm)
      have h4 : xcell E M' i = xcell E M i := by
        unfold xcell xfs
        rw [h3]
        have h5 : xfv E M' i (xkd i) = xfv E M i (xkd i) := by
          funext k
          unfold xfv
          rw [h3]
        rw [h5]
      rw [h4]
    · rw [List.getElem?_eq_none (by simpa using h2)]
      rfl
theorem xws_fst (E : xE) (M M' : xM) {k : Nat} {q : Nat × va_E} (h : (xws E M')[k]? = some q) : ∃ e, (xws E M)[k]? = some (q.1, e) := by
  simp only [xws, List.getElem?_map] at h ⊢
  cases hr : (List.range 60)[k]? with
  | none => rw [hr] at h; cases h
  | some z =>
    rw [hr] at h
    simp only [Option.map_some, Option.some.injEq] at h ⊢
    subst h
    exact ⟨_, rfl⟩
theorem xD_any {E : xE} {A : Nat → Prop} {M M' : xM} (h : va_D A (xws E M)) : va_D A (xws E M') := by
  refine ⟨fun i j p q hi hj e => ?_, fun k q hk => ?_⟩
  · obtain ⟨e1, h1⟩ := xws_fst E M M' hi
    obtain ⟨e2, h2⟩ := xws_fst E M M' hj
    exact h.1 i j _ _ h1 h2 e
  · obtain ⟨e1, h1⟩ := xws_fst E M M' hk
    exact h.2 k (q.1, e1) h1
theorem xcell_row (E : xE) (M : xM) {p : Nat} (h : xkd p = 5) : xcell E M p = .inl (xeC E, xln p, .inl (M p)) := by simp [xcell, h]
theorem xcell_obj (E : xE) (M : xM) {p ci : Nat} (h : xkd p = ci) (h5 : ci ≠ 5) : xcell E M p = .inr (ci, xfs E M p ci) := by subst h; simp [xcell, h5]
theorem xfs_get (E : xE) (M : xM) (p ci : Nat) {k : Nat} (h : k < xnf ci) : (xfs E M p ci)[k]? = some (xfv E M p ci k) := by simp [xfs, h]
theorem xfs_len (E : xE) (M : xM) (p ci : Nat) : (xfs E M p ci).length = xnf ci := by simp [xfs]
theorem xfs_set (E : xE) (M : xM) (p ci : Nat) {k : Nat} (x : Int32) (hk : xfo ci k = none) : (xfs E M p ci).set k (.int x) = xfs E (xup M p k x) p ci := by
  apply List.ext_getElem?
  intro i
  rw [List.getElem?_set]
  simp only [xfs_len]
  by_cases hi : k = i
  · subst hi
    by_cases h2 : k < xnf ci
    · simp [h2, xfs, xfv, hk, xup_at, upd]
    · simp [h2, xfs]
  · simp only [hi, if_false]
    by_cases h2 : i < xnf ci
    · rw [xfs_get E _ p ci h2, xfs_get E _ p ci h2]
      simp only [xfv, xup_at, upd, if_neg (fun z : i = k => hi z.symm)]
    · rw [List.getElem?_eq_none (by simpa [xfs_len] using h2), List.getElem?_eq_none (by simpa [xfs_len] using h2)]
-- string constants: places 110 .. 118; their bytes: 130 .. 138
def xstO : List (Nat × Nat × String) := [(1, 53, "ipexbmuc"), (1, 70, "9k99"), (1, 72, "9999"), (1, 74, "99a9"), (1, 76, "99"), (1, 78, "9"), (1, 80, ""), (1, 26, "nfdlgh"), (4, 79, "nfdlgh")]
def xstB : List (List Int32) := [[105,112,101,120,98,109,117,99], [57,107,57,57], [57,57,57,57], [57,57,97,57], [57,57], [57], [], [110,102,100,108,103,104], [110,102,100,108,103,104]]
def xsb (i j : Nat) : Int32 := (xstB.getD i []).getD j 0
def xsl (i : Nat) : Nat := (xstB.getD i []).length
def xhold (j : Nat) : Int32 := ([0, 3, 1, 0, 2, 1] : List Int32).getD j 0
def xlist (j : Nat) : Int32 := ([0, 0, 4, 0, 0, 6] : List Int32).getD j 0
def xown (k : Nat) : String := ([RX0, RX1, RX2, RX3, RX4, RJ0, RJ1, RJ2, RJ3, RJ6, RJ7, RJ9, RL] : List String).getD k ""
-- what is static, at a state U with the heap H
def xA (E : xE) : Nat → Prop := fun q => xeB E ≤ q
def xStr (E : xE) (i : Nat) (U : State) (H : Heap) : Prop := va_O "java/lang/String" (xeA E (110 + i)) (xA E) U H ∧ va_OF "java/lang/String" "coder" "B" (.int 0) (xeA E (110 + i)) (xA E) U H ∧ va_OF "java/lang/String" "value" "[B" (.ref (xeA E (130 + i))) (xeA E (110 + i)) (xA E) U H ∧ va_T .byte (xeA E (130 + i)) (xsl i) (fun j => .int (xsb i j)) (xA E) U H
def xLnk (E : xE) (U : State) : Prop := (∀ i q, xstO[i]? = some q → vk_R (xown q.1) q.2.1 q.2.2 (xeA E (110 + i)) U) ∧ va_Nw (.fieldLinkNest RX0 89 RX3 "HOLDS" "[I" RX3) U ∧ va_Nw (.fieldLinkNest RX0 106 RX3 "LISTS" "[I" RX3) U ∧ va_Nw (.fieldLinkNest RX2 89 RX3 "LISTS" "[I" RX3) U ∧ va_Nw (.methodLinkNest RX2 53 yX3_isOutside RX3) U
def xSta (E : xE) (U : State) (H : Heap) : Prop := va_Z RX3 "HOLDS" "[I" (.ref (xeA E 100)) (xA E) U H ∧ va_T .int (xeA E 100) 6 (fun j => .int (xhold j)) (xA E) U H ∧ va_Z RX3 "LISTS" "[I" (.ref (xeA E 101)) (xA E) U H ∧ va_T .int (xeA E 101) 6 (fun j => .int (xlist j)) (xA E) U H ∧ va_Z RJ0 "COMPACT_STRINGS" "Z" (.int 1) (xA E) U H ∧ va_Z RJ3 "SIOOBE_FORMATTER" "Ljava/util/function/BiFunction;" (xeS E) (xA E) U H ∧ (xeS E = .null ∨ ∃ t, xeS E = .ref t) ∧ ∀ i, i < 9 → xStr E i U H
def xK (E : xE) (U : State) (H : Heap) : Prop := va_K (xeD E) vwCl [(xeC E, .int)] U ∧ xSta E U H ∧ xLnk E U
theorem xSta.moved {E : xE} {u U : State} {H : Heap} (hvm : u.vm.Alike U.vm) (h : xSta E u H) : xSta E U H := by
  obtain ⟨h1, h2, h3, h4, h5, h6, h7, h8⟩ := h
  exact ⟨va_Z.moved hvm h1, va_T.moved hvm h2, va_Z.moved hvm h3, va_T.moved hvm h4, va_Z.moved hvm h5, va_Z.moved hvm h6, h7, fun i hi => ⟨va_O.moved hvm (h8 i hi).1, va_OF.moved hvm (h8 i hi).2.1, va_OF.moved hvm (h8 i hi).2.2.1, va_T.moved hvm (h8 i hi).2.2.2⟩⟩
theorem xSta.kept {E : xE} {U : State} {H H1 : Heap} (h : xSta E U H) (hq : ∀ a : Nat, a < H.size → ¬ xA E a → H1[a]? = H[a]?) : xSta E U H1 := by
  obtain ⟨h1, h2, h3, h4, h5, h6, h7, h8⟩ := h
  exact ⟨h1.kept hq, h2.kept hq, h3.kept hq, h4.kept hq, h5.kept hq, h6.kept hq, h7, fun i hi => ⟨(h8 i hi).1.kept hq, (h8 i hi).2.1.kept hq, (h8 i hi).2.2.1.kept hq, (h8 i hi).2.2.2.kept hq⟩⟩
theorem xLnk.same {E : xE} {u U : State} (hv : U.vm = u.vm) (h : xLnk E u) : xLnk E U := ⟨fun i q hq => vk_R.same hv (h.1 i q hq), va_Nw.same rfl hv.symm h.2.1, va_Nw.same rfl hv.symm h.2.2.1, va_Nw.same rfl hv.symm h.2.2.2.1, va_Nw.same rfl hv.symm h.2.2.2.2⟩
theorem xLnk.warm {E : xE} {s U : State} (hW : s.WarmedH U.vm) (h : xLnk E s) : xLnk E U := ⟨fun i q hq => vk_R.warm hW (h.1 i q hq), va_Nw.warmF hW h.2.1, va_Nw.warmF hW h.2.2.1, va_Nw.warmF hW h.2.2.2.1, va_Nw.warmM hW h.2.2.2.2⟩
