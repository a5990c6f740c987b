/-! THE CLAIM OUT OF ONE WALK OF THE LAW'S BODY. Your part is whole_start (and what it stands on); all else here is the same for every law, but numbers. -/
def R_law : String := "VolumeInFivePassesLaw"
def lw_P (b : Addr) (xs : List Int32) (args : Array Value) (s : State) : Prop := args = #[.ref b] ∧ s.IntsAt b xs ∧ xs.length ≤ 2560 ∧ (Jvm.Cond.and given_1 narrow_1).before args s = true
def lw_Q (_ : Array Value) (s : State) (o : Outcome) (t : State) : Prop := o = .returned (some (.int 1)) ∧ Framed s o t [] 60 3828
def lw_Z (below : List Frame) (a : Array Value) (s : State) : State → Prop := fun t => ∃ o, t.status = .running ∧ Ended t below o ∧ lw_Q a s o t
/-- the law's own end, with 1 on the stack, nothing written that was there before, its room as the claim has it -/
theorem lw_ret {p : Program} {l : Launch} {e : Env} {s : State} {m : MethodId} {below : List Frame} {meth : Method} {c : Code} {b : Nat} (hx : p.tables.exec = Jvm.exec) (hb : c.code = code) (hr : meth.sig.returnType = ret) (hlocks : meth.locks = false) {pc : Nat} {H : Heap} {ls : Array Slot} (hdg : decode code pc = .ok (.ireturn, 1)) : W p l e room_1 s m #[Value.ref b] below meth c H [] 60 3828 (lw_Z below #[Value.ref b] s) (F0 m pc ls [.int 1]) := by
  intro T hT X
  obtain ⟨fs, hret, hrun, hended, hW, hframe⟩ := X.leave (v := some (.int 1)) (hlocks := hlocks) (fun h => by rw [hr] at h; cases h)
  have hmeth' : T.vm.method? m = some meth := X.method'
  refine ⟨T.setFrames fs, ?_, .returned (some (.int 1)), hrun, hended, rfl, ⟨_, rfl⟩, hW, hframe⟩
  jvm_step X.here [X.here.top, hx, hb, hdg, hmeth', hr, ret, narrow_b1]
  (try refine ⟨rfl, ?_⟩); (try refine ⟨rfl, ?_⟩)
  first | (intro acts; rw [hret _ acts rfl rfl rfl]) | rw [hret _ _ rfl rfl rfl]
  exact Steps.refl _
/-- what holds at the law's entry: the machine, the code, the tables' words (any of lw_tbl by 'hts w (by decide +kernel)'), the script of L ints xs at the cell b, what the Statement gives of the start (any of its parts by flat_of_before) -/
def lw_At (p : Program) (s : State) (m : MethodId) (meth : Method) (c : Code) (b L : Nat) (xs : Nat → Int32) : Prop :=
  p.tables.exec = Jvm.exec ∧ c.code = code ∧ meth.sig.returnType = ret ∧ c.maxLocals = 4 ∧ s.vm.findClass R_law = some m.cls ∧ (∀ w ∈ lw_tbl, w.before #[Value.ref b] s = true) ∧ va_X b L xs s s.heap ∧ b < s.heap.size ∧ meth.locks = false ∧ (Jvm.Cond.and given_1 narrow_1).before #[Value.ref b] s = true

/-! the law: its own frame; its calls -/
def lCtx (E : xE) (p : Program) (s : State) (mi : MethodId) (meth : Method) (c : Code) (b L : Nat) (xs : Nat → Int32) : Prop :=
  p.tables.exec = Jvm.exec ∧ c.code = code ∧ meth.sig.returnType = ret ∧ c.maxLocals = 4 ∧ s.vm.findClass RL = some mi.cls ∧ (∀ w ∈ xTbl, w.before #[Value.ref b] s = true) ∧ va_X b L xs s s.heap ∧ b < s.heap.size ∧ meth.locks = false ∧ xK E s s.heap ∧ xeB E = s.heap.size
def Gl (l : Launch) (E : xE) (L : Nat) (xs : Nat → Int32) (pc : Nat) (M : xM) (i : Nat) (st : List Value) : Prop :=
  ∀ (p : Program) (e : Env) (s : State) (mi : MethodId) (below : List Frame) (meth : Method) (c : Code) (H : Heap) (locs : List Loc) (ls : Array Slot) (b : Nat),
    lCtx E p s mi meth c b L xs → va_P (xeD E) vwCl (xws E M) H → va_D (xA E) (xws E M) → va_S (xA E) s.heap H locs → lv_has ls 4 [(3, .int (nI i)), (2, .ref (xeA E 50)), (1, .ref (xeA E 0)), (0, .ref b)] →
    W p l e room_1 s mi #[Value.ref b] below meth c H locs 60 3828 (lw_Z below #[Value.ref b] s) (F0 mi pc ls (st.map (xv E)))
section L1
variable {p : Program} {l : Launch} {e : Env} {Rm : Room} {s : State} {m : MethodId} {args : Array Value} {below : List Frame} {meth : Method} {c : Code} {H : Heap} {locs : List Loc} {Q : State → Prop} {pc : Nat} {ls : Array Slot} {rest st0 : List Value} {a : Array Value} {E : xE} {cells slots : Nat}
theorem x_callG {R' : Option Value → xM → Prop} (hr : va_Run p l e Rm s m args below meth c H locs cells slots 0 0 (F0 m pc ls st0) rest (xQ E R' a) (xA E)) (hS : va_S (xA E) s.heap H locs)
    (kk : ∀ (r : Option Value) (M' : xM) (H1 : Heap) (locs1 : List Loc), R' r M' → va_P (xeD E) vwCl (xws E M') H1 → va_D (xA E) (xws E M') → va_S (xA E) s.heap H1 locs1 → W p l e Rm s m args below meth c H1 locs1 cells slots Q (F0 m (pc + 3) ls ((r.map (xv E)).toList ++ rest))) : W p l e Rm s m args below meth c H locs cells slots Q (F0 m pc ls st0) := by
  intro T hT X
  obtain ⟨v, st₀, t, T', L, h0, X', hL, e1, e2, ⟨⟨r, M', hv, hp, hb⟩, hz, hk⟩, st⟩ := hr T hT X
  cases hv
  rw [h0] at hz hk
  obtain ⟨t2, a1, b1⟩ := kk r M' T'.heap (locs ++ L) hp (by rw [e1]; exact hb.1) hb.2
    ⟨Nat.le_trans hS.1 (by rw [e1]; exact hz), fun q h1 h2 => by rw [e1, hk q (Nat.lt_of_lt_of_le h1 hS.1) h2]; exact hS.2.1 q h1 h2, fun q hq => by
      rcases List.mem_append.mp hq with h | h
      · exact hS.2.2 q h
      · exact hL q h⟩ T' rfl X'
  exact ⟨t2, st t2 a1, b1⟩
end L1
section L2
variable {l : Launch} {E : xE} {L : Nat} {xs : Nat → Int32} {pc : Nat} {M : xM} {i : Nat} {st rest : List Value}
theorem Gl_x (hd : decode code pc = .ok (.aload_n 1, 1)) (k : Gl l E L xs (pc + 1) M i (.ref 0 :: st)) : Gl l E L xs pc M i st := by
  intro p e s mi below meth c H locs ls b C hP hD hS hL
  have := k p e s mi below meth c H locs ls b C hP hD hS hL
  rw [List.map_cons, xv_ref (by omega)] at this
  exact lv_aload_n C.1 C.2.1 hd rfl (lv_at hL 2 rfl) this
theorem Gl_m (hd : decode code pc = .ok (.aload_n 2, 1)) (k : Gl l E L xs (pc + 1) M i (.ref 50 :: st)) : Gl l E L xs pc M i st := by
  intro p e s mi below meth c H locs ls b C hP hD hS hL
  have := k p e s mi below meth c H locs ls b C hP hD hS hL
  rw [List.map_cons, xv_ref (by omega)] at this
  exact lv_aload_n C.1 C.2.1 hd rfl (lv_at hL 1 rfl) this
theorem Gl_arg (t : Nat) {iz : Int} (d0 : decode code pc = .ok (.aload_n 0, 1)) (d1 : decode code (pc + 1) = .ok (.iload_n 3, 1)) (d2 : decode code (pc + 2) = .ok (.iconst iz, 1)) (hz : Int32.ofInt iz = nI t) (d3 : decode code (pc + 3) = .ok (.iadd, 1)) (d4 : decode code (pc + 4) = .ok (.iaload, 1)) (hi : i + 5 ≤ L) (ht : t < 5) (hl : L ≤ 2560) (k : Gl l E L xs (pc + 5) M i (.int (xs (i + t)) :: st)) : Gl l E L xs pc M i st := by
  intro p e s mi below meth c H locs ls b C hP hD hS hL
  have kk := k p e s mi below meth c H locs ls b C hP hD hS hL
  rw [List.map_cons, xv_int] at kk
  obtain ⟨hx, hb, hr, hml, hown, hts, hX, hbl, hlk, hK, hB⟩ := C
  have hbA : ¬ xA E b := by show ¬ xeB E ≤ b; omega
  refine lv_aload_n hx hb d0 rfl (lv_at hL 3 rfl) ?_
  refine lv_iload_n hx hb d1 rfl (lv_at hL 0 rfl) ?_
  refine lv_iconst hx hb d2 hz ?_
  refine lv_iadd hx hb d3 ?_
  rw [z_add]
  refine va_sld hx hb hX hbl hbA hS ((z_in (by omega) (by omega)).mpr (by omega)) d4 ?_
  rw [z_cl (by omega)]
  exact kk
theorem Gl_call {mc : xMt} {n idx q ci : Nat} {rc : vw_C} {As : List Value} {R' : Option Value → xM → Prop} (hd : decode code pc = .ok (.invokevirtual idx, 3)) (hl : Cond.methodLink RL idx (xmy mc) ∈ xTbl) (hm : xMok mc n) (hv : xMv mc) (hn : As.length = n) (hdep : xmd mc + 1 ≤ 14 ∧ 8 + (xmn mc + 11) + 39 * xmd mc ≤ 544) (hrest : (rest.map fun v => v.category).sum ≤ 8)
    (hk : xkd q = ci) (hc : vwCl[ci]? = some rc) (he : rc.1 = (xmy mc).cls)
    (hC : Ct l E mc (.ref q :: As) M R') (k : ∀ r M', R' r M' → Gl l E L xs (pc + 3) M' i (r.toList ++ rest)) : Gl l E L xs pc M i (As.reverse ++ .ref q :: rest) := by
  intro p e s mi below meth c H locs ls b C hP hD hS hL
  have C0 := C
  obtain ⟨hx, hb, hr, hml, hown, hts, hX, hbl, hlk, hK, hB⟩ := C
  have hci : ci < 5 := (List.getElem?_eq_some_iff.mp hc).1
  have hq60 : q < 60 := xkd_lt (by omega)
  have hq : q ≠ 103 := by omega
  have hSi := hK.2.1.2.2.2.2.2.2.1
  have hBl : xeB E ≤ s.heap.size := by omega
  have hrc : ∃ cell : Cell, H[xeA E q]? = some cell ∧ cell.vm.isStatics = false ∧ s.vm.findClass (xmy mc).cls = some cell.cls := by
    have h1 := xws_get E M hq60
    rw [xcell_obj E M hk (by omega)] at h1
    have h2 := va_recv hK.1 hP hc h1
    rw [he] at h2
    exact h2
  rw [x_stackV hq]
  refine x_callG (va_runV (own := RL) (C := (xmy mc).cls) (As := As.map (xv E)) (rest := rest.map (xv E)) (b := xeA E q) (ws := xWd mc) (rm := xR (xmd mc)) (Ts := xTbl) ⟨hx, hb, hml, hown, hts⟩ hC ⟨callB_of n hts (xWd_good hm) rfl rfl rfl (hts _ hm.2.1) (hts _ hl) hm.2.2.1 hdep, hts _ hv.1, hts _ hv.2⟩ ⟨xPre_blind, hrc, fun U hU hW => ⟨by simp [xv_ref hq], xPre_at hK hBl hP hD hS hU hW⟩⟩ rfl (by rw [List.length_map]; exact hn) hL.1 rfl (x_rest hSi hrest) hd ⟨Nat.le_refl _, Nat.le_refl _⟩) hS (fun r M' H1 locs1 hR hP1 hD1 hS1 => ?_)
  have := k r M' hR p e s mi below meth c H1 locs1 ls b C0 hP1 hD1 hS1 hL
  rw [List.map_append] at this
  have e1 : List.map (xv E) r.toList = (r.map (xv E)).toList := by cases r <;> rfl
  rw [e1] at this
  exact this
theorem Gl_cmp {x y : Int32} {off : Int} (hd : decode code pc = .ok (.if_icmp .eq off, 3)) (ht : (pc : Int) + off = (1216 : Nat)) (h : x = y) (k : Gl l E L xs 1216 M i []) : Gl l E L xs pc M i [.int y, .int x] := by
  intro p e s mi below meth c H locs ls b C hP hD hS hL
  exact lv_icmp_eq C.1 C.2.1 hd ht (fun _ => k p e s mi below meth c H locs ls b C hP hD hS hL) (fun z => absurd h z)
theorem Gl_lcmp {x y : Int64} {off : Int} (hd : decode code pc = .ok (.lcmp, 1)) (hd2 : decode code (pc + 1) = .ok (.ifCond .eq off, 3)) (ht : ((pc + 1 : Nat) : Int) + off = (1216 : Nat)) (h : x = y) (k : Gl l E L xs 1216 M i []) : Gl l E L xs pc M i [.long y, .long x] := by
  intro p e s mi below meth c H locs ls b C hP hD hS hL
  refine W.lcmp C.1 C.2.1 hd ?_
  exact lv_if_eq C.1 C.2.1 hd2 ht (fun _ => k p e s mi below meth c H locs ls b C hP hD hS hL) (fun z => absurd ((lg_cmp_eq x y).mpr h) z)
end L2
