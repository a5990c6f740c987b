/-! the start: what is static; the first memory -/
def stO (i : Nat) : Nat × Nat × String := xstO.getD i (0, 0, "")
def stTm (i : Nat) : Term := .string (xown (stO i).1) (stO i).2.1
abbrev stV (i : Nat) : Term := .field (stTm i) "java/lang/String" "value" "[B"
def stG : List Cond := flatC (Cond.and given_1 narrow_1)
set_option maxRecDepth 100000 in
theorem sw_ex : ∀ i, i < 9 → Cond.exactly (stTm i) "java/lang/String" ∈ stG := by decide +kernel
set_option maxRecDepth 100000 in
theorem sw_co : ∀ i, i < 9 → Cond.eq (.field (stTm i) "java/lang/String" "coder" "B") (.int 0) ∈ stG := by decide +kernel
set_option maxRecDepth 100000 in
theorem sw_ar : ∀ i, i < 9 → Cond.arrayOf (stV i) .byte ∈ stG := by decide +kernel
set_option maxRecDepth 100000 in
theorem sw_le : ∀ i, i < 9 → Cond.eq (.length (stV i)) (.int (Int32.ofNat (xsl i))) ∈ stG := by decide +kernel
set_option maxRecDepth 100000 in
theorem sw_el : ∀ i, i < 9 → ∀ j, j < xsl i → Cond.eq (.elem (stV i) (.int (Int32.ofNat j))) (.int (xsb i j)) ∈ stG := by decide +kernel
set_option maxRecDepth 100000 in
theorem sw_rf : ∀ i, i < 9 → Cond.stringRef (xown (stO i).1) (stO i).2.1 (stO i).2.2 ∈ lw_tbl := by decide +kernel
set_option maxRecDepth 100000 in
theorem sw_ho : Cond.arrayOf (.static RX3 "HOLDS" "[I") .int ∈ stG ∧ Cond.eq (.length (.static RX3 "HOLDS" "[I")) (.int (Int32.ofNat 6)) ∈ stG ∧ ∀ j, j < 6 → Cond.eq (.elem (.static RX3 "HOLDS" "[I") (.int (Int32.ofNat j))) (.int (xhold j)) ∈ stG := ⟨by decide +kernel, by decide +kernel, by decide +kernel⟩
set_option maxRecDepth 100000 in
theorem sw_li : Cond.arrayOf (.static RX3 "LISTS" "[I") .int ∈ stG ∧ Cond.eq (.length (.static RX3 "LISTS" "[I")) (.int (Int32.ofNat 6)) ∈ stG ∧ ∀ j, j < 6 → Cond.eq (.elem (.static RX3 "LISTS" "[I") (.int (Int32.ofNat j))) (.int (xlist j)) ∈ stG := ⟨by decide +kernel, by decide +kernel, by decide +kernel⟩
set_option maxRecDepth 100000 in
theorem sw_cs : Cond.eq (.static RJ0 "COMPACT_STRINGS" "Z") (.int 1) ∈ stG ∧ Cond.isRef (.static RJ3 "SIOOBE_FORMATTER" "Ljava/util/function/BiFunction;") ∈ stG := ⟨by decide +kernel, by decide +kernel⟩
section S4
variable {s : State} {args : Array Value} {A : Nat → Prop}
theorem y_str {tm : Term} {n : Nat} {f : Nat → Int32} (hn : n < 2 ^ 31) (hex : (Cond.exactly tm "java/lang/String").before args s = true) (hco : (Cond.eq (.field tm "java/lang/String" "coder" "B") (.int 0)).before args s = true) (har : (Cond.arrayOf (.field tm "java/lang/String" "value" "[B") .byte).before args s = true) (hle : (Cond.eq (.length (.field tm "java/lang/String" "value" "[B")) (.int (Int32.ofNat n))).before args s = true) (hel : ∀ j, j < n → (Cond.eq (.elem (.field tm "java/lang/String" "value" "[B") (.int (Int32.ofNat j))) (.int (f j))).before args s = true) (hA : ∀ a : Nat, a < s.heap.size → ¬ A a) :
    ∃ q : Nat × Nat, tm.eval args s none [] s = some (.ref q.1) ∧ va_O "java/lang/String" q.1 A s s.heap ∧ va_OF "java/lang/String" "coder" "B" (.int 0) q.1 A s s.heap ∧ va_OF "java/lang/String" "value" "[B" (.ref q.2) q.1 A s s.heap ∧ va_T .byte q.2 n (fun j => .int (f j)) A s s.heap := by
  obtain ⟨a, c, cA, kA, q1, q2, q3, q4, q5, q6, -⟩ := Cond.exactly_spec (args := args) (first := s) (o := none) (s := s) (idx := []) (t := tm) (cls := "java/lang/String") hex
  obtain ⟨t, ht, hT⟩ := va_Tof (f := fun j => .int (f j)) (A := A) hn har (va_eqt hle) (fun j hj => va_eqt (hel j hj)) hA
  exact ⟨(a, t), q1, ⟨cA, q3, q5, by rw [q6]; exact q2, hA a (Array.getElem?_eq_some_iff.mp q3).1⟩, vk_OFof q1 (va_eqt hco) hA, vk_OFof q1 ht hA, hT⟩
theorem y_sta (hts : ∀ w ∈ lw_tbl, w.before args s = true) (hgv : (Cond.and given_1 narrow_1).before args s = true) : ∃ (tH tL : Nat) (ad : Nat → Nat × Nat) (fm : Value), ∀ E : xE, xeA E 100 = tH → xeA E 101 = tL → (∀ i, i < 9 → xeA E (110 + i) = (ad i).1 ∧ xeA E (130 + i) = (ad i).2) → xeS E = fm → xeB E = s.heap.size → xSta E s s.heap ∧ xLnk E s := by
  have hs : ∀ c ∈ stG, c.before args s = true := flat_of_before _ hgv
  have hw : ∀ (i : Nat) {w : Cond}, lw_tbl[i]? = some w → w.before args s = true := fun i w h => hts w (List.mem_of_getElem? h)
  have hA : ∀ a : Nat, a < s.heap.size → ¬ (fun q : Nat => s.heap.size ≤ q) a := fun a h => Nat.not_le.mpr h
  have h0 : ∀ i : Nat, ∃ q : Nat × Nat, i < 9 → (stTm i).eval args s none [] s = some (.ref q.1) ∧ va_O "java/lang/String" q.1 (fun q : Nat => s.heap.size ≤ q) s s.heap ∧ va_OF "java/lang/String" "coder" "B" (.int 0) q.1 (fun q : Nat => s.heap.size ≤ q) s s.heap ∧ va_OF "java/lang/String" "value" "[B" (.ref q.2) q.1 (fun q : Nat => s.heap.size ≤ q) s s.heap ∧ va_T .byte q.2 (xsl i) (fun j => .int (xsb i j)) (fun q : Nat => s.heap.size ≤ q) s s.heap := by
    intro i
    by_cases hi : i < 9
    · have h8 := sx_8 i hi
      obtain ⟨q, hq⟩ := y_str (tm := stTm i) (n := xsl i) (f := xsb i) (by omega) (hs _ (sw_ex i hi)) (hs _ (sw_co i hi)) (hs _ (sw_ar i hi)) (hs _ (sw_le i hi)) (fun j hj => hs _ (sw_el i hi j hj)) hA
      exact ⟨q, fun _ => hq⟩
    · exact ⟨(0, 0), fun h => absurd h hi⟩
  obtain ⟨ad, had⟩ := Classical.axiomOfChoice h0
  obtain ⟨tH, eH, TH⟩ := va_Tof (tm := .static RX3 "HOLDS" "[I") (ty := .int) (N := 6) (f := fun j => .int (xhold j)) (A := fun q : Nat => s.heap.size ≤ q) (by decide) (hs _ sw_ho.1) (va_eqt (hs _ sw_ho.2.1)) (fun j hj => va_eqt (hs _ (sw_ho.2.2 j hj))) hA
  obtain ⟨tL, eL, TL⟩ := va_Tof (tm := .static RX3 "LISTS" "[I") (ty := .int) (N := 6) (f := fun j => .int (xlist j)) (A := fun q : Nat => s.heap.size ≤ q) (by decide) (hs _ sw_li.1) (va_eqt (hs _ sw_li.2.1)) (fun j hj => va_eqt (hs _ (sw_li.2.2 j hj))) hA
  obtain ⟨fm, eF, rF⟩ := Cond.isRef_spec (hs _ sw_cs.2)
  have iX3 : (Cond.initialized RX3).before args s = true := hw 72 (by decide +kernel)
  refine ⟨tH, tL, ad, fm, fun E e1 e2 e3 e4 e5 => ?_⟩
  have eA : xA E = fun q : Nat => s.heap.size ≤ q := by funext q; show (xeB E ≤ q) = _; rw [e5]
  refine ⟨⟨?_, ?_, ?_, ?_, ?_, ?_, ?_, fun i hi => ?_⟩, fun i q hq => ?_, ?_, ?_, ?_, ?_⟩
  · rw [eA, e1]; exact va_Zof (hw 462 (by decide +kernel)) iX3 eH hA
  · rw [eA, e1]; exact TH
  · rw [eA, e2]; exact va_Zof (hw 495 (by decide +kernel)) iX3 eL hA
  · rw [eA, e2]; exact TL
  · rw [eA]; exact va_Zof (hw 280 (by decide +kernel)) (hw 78 (by decide +kernel)) (va_eqi (hs _ sw_cs.1)) hA
  · rw [eA, e4]; exact va_Zof (hw 323 (by decide +kernel)) (hw 82 (by decide +kernel)) eF hA
  · rw [e4]
    cases fm with
    | null => exact Or.inl rfl
    | ref t => exact Or.inr ⟨t, rfl⟩
    | _ => cases rF
  · obtain ⟨f1, f2⟩ := e3 i hi
    unfold xStr
    rw [eA, f1, f2]; exact (had i hi).2
  · have hi : i < 9 := (List.getElem?_eq_some_iff.mp hq).1
    have eq : q = stO i := by unfold stO; rw [List.getD_eq_getElem?_getD, hq]; rfl
    rw [eq, (e3 i hi).1]
    exact vk_R.of (hts _ (sw_rf i hi)) (had i hi).1
  · exact va_Nw.of rfl (hw 461 (by decide +kernel))
  · exact va_Nw.of rfl (hw 494 (by decide +kernel))
  · exact va_Nw.of rfl (hw 535 (by decide +kernel))
  · exact va_Nw.of rfl (hw 483 (by decide +kernel))
end S4
-- the first memory
def volC : List (Nat → Int32) := [zF, upd zF 0 2, zF, zF, fF 30, fF 60, zF]
def chkC : List (Nat → Int32) := [zF] ++ volC ++ [zF, zF, zF, zF]
def MC : List (Nat → Int32) := [zF] ++ volC ++ volC ++ volC ++ chkC ++ chkC ++ [zF, zF, zF, zF, zF, mF2, zF, zF, zF, zF, zF, zF, zF, zF]
def M0 : xM := fun p => MC.getD p zF
def A0 : Nat → Nat := fun q => if q = 0 then 2 else if 30 ≤ q ∧ q < 60 then 99 else if 60 ≤ q ∧ q < 120 then 260 else 0
theorem A0_ok : aOK A0 := ⟨by decide, by decide, by decide, by decide, by decide, by decide, by decide, by decide⟩
set_option maxRecDepth 100000 in
theorem CV_0 : CV M0 1 A0 := ⟨by decide +kernel, by decide +kernel, by decide +kernel, by decide +kernel, by decide +kernel, by decide +kernel, by decide +kernel, by decide +kernel⟩
set_option maxRecDepth 100000 in
theorem SV_0 : SV M0 A0 := ⟨by decide +kernel, by decide +kernel, by decide +kernel, by decide +kernel, by decide +kernel, by decide +kernel, by decide +kernel, by decide +kernel⟩
set_option maxRecDepth 100000 in
theorem Inv_0 : Inv M0 := ⟨⟨Or.inl ⟨by decide +kernel, by decide +kernel⟩, ⟨0, by omega, by decide +kernel, by decide +kernel, fun j hj => absurd hj (Nat.not_lt_zero j)⟩, ⟨0, by omega, by decide +kernel, by decide +kernel, fun j hj => absurd hj (Nat.not_lt_zero j)⟩, fun j _ _ => rfl⟩, A0, fun _ => false, CV_0, A0_ok, fun r h => (by cases h), by decide +kernel, SV_0, by decide +kernel⟩
/-- a constructor called, out of any method -/
theorem y_callI {p : Program} {l : Launch} {e : Env} {Rm : Room} {s : State} {mi : MethodId} {args : Array Value} {below : List Frame} {meth : Method} {c : Code} {H : Heap} {locs : List Loc} {Q : State → Prop} {a b pc : Nat} {ls : Array Slot} {st : List Value} {D : va_G} {cI : ClassId} {cc : ByteArray} {nL : Nat} {own : String} {A : Nat → Prop} {ws : va_W} {mc : xMt} {idx q kc nc : Nat} {e0 : va_E} {Rc : va_W → Prop}
    (hx : p.tables.exec = Jvm.exec) (hbb : c.code = cc) (hml : c.maxLocals = nL) (hsz : ls.size = nL) (hown : s.vm.findClass own = some mi.cls) (hts : ∀ w ∈ xTbl, w.before args s = true) (hK : yKo D cI s) (hA : ∀ q : Nat, s.heap.size ≤ q → A q) (hP : va_P D vwCl (ws ++ [(q, e0)]) H) (hD : va_D A (ws ++ [(q, e0)])) (hS : va_S A s.heap H locs)
    (hd : decode cc pc = .ok (.invokespecial idx, 3)) (hm : yMok mc 0) (hn : (xmy mc).name = "<init>") (hin : Cond.instanceMethod (xmy mc) ∈ xTbl) (hl : Cond.methodLink own idx (xmy mc) ∈ xTbl) (hroom : (yR (xmd mc) kc nc).frames + 1 ≤ Rm.frames ∧ 8 + (xmn mc + 11) + (yR (xmd mc) kc nc).locals ≤ Rm.locals) (hC : yMet l D cI mc [.ref q] [(q, e0)] kc nc Rc) (ha : a + kc ≤ Rm.cells) (hb : b + nc ≤ Rm.slots) (hst : (st.map fun v => v.category).sum ≤ 8)
    (g : ∀ (w1 : va_W) (H1 : Heap) (locs1 : List Loc), Rc w1 → va_P D vwCl (ws ++ w1) H1 → va_D A (ws ++ w1) → va_S A s.heap H1 locs1 → W p l e Rm s mi args below meth c H1 locs1 (a + kc) (b + nc) Q (F0 mi (pc + 3) ls st)) : W p l e Rm s mi args below meth c H locs a b Q (F0 mi pc ls (.ref q :: st)) := by
  have hFc : ∀ x, va_A [(q, e0)] H.size x → A x := va_free hD hS hA [ws.length] (by simp)
  have hPc : va_P D vwCl [(q, e0)] H := hP.sub [ws.length] (by simp)
  have hDc : va_D A [(q, e0)] := hD.sub [ws.length] (nd_of (by simp)) (by simp)
  refine va_callv (va_runI (As := []) (rest := st) ⟨hx, hbb, hml, hown, hts⟩ (hC H.size) (cwI (ws' := xTbl) 0 hts (yWd_good hm) (by unfold xWd; rw [hm.2.2.2.2]) rfl rfl (hts _ hm.2.1) (hts _ hl) (hts _ hin) hn hm.2.2.1 hroom) ⟨yPre_blind, fun U hU hW => ⟨rfl, by rw [hU], by rw [hU]; exact hPc, hDc.weaken (fun _ _ _ _ => trivial), yKo.warm hW hK⟩⟩ rfl rfl hsz rfl (lv_room hst) hd ⟨ha, hb⟩) hS (fun x _ h => hFc x h) hFc (fun u t H1 locs1 ht hvm hw hB hz1 hk1 hS1 => ?_)
  obtain ⟨hP1, hD1⟩ := hB
  rw [ht] at hP1
  obtain ⟨hP2, hD2⟩ := y_join hP hD hk1 hFc hP1 hD1
  exact g u H1 locs1 hw hP2 hD2 hS1
