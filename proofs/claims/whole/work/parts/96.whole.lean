/-! the whole start; the claim -/
set_option maxHeartbeats 8000000 in
set_option maxRecDepth 100000 in
theorem whole_start {p : Program} {e : Env} {s : State} {m : MethodId} {below : List Frame} {meth : Method} {c : Code} (l : Launch) (hflags : l.flags = flags0) {b L : Nat} {xs : Nat → Int32} (hL : L ≤ 2560) (C0 : lw_At p s m meth c b L xs) : W p l e room_1 s m #[Value.ref b] below meth c s.heap [] 0 0 (lw_Z below #[Value.ref b] s) (entryFrame m ([Value.ref b] : List Value).toArray 4) := by
  obtain ⟨hx, hb, hr, hml, hown, hts, hX, hbl, hlocks, hgv⟩ := id C0
  have hown : s.vm.findClass RL = some m.cls := hown
  have htx : ∀ w ∈ xTbl, w.before #[Value.ref b] s = true := fun w h => hts w (xTbl_sub w h)
  obtain ⟨c0, i0, k0⟩ := u_known (C := RX0) (T := TX0) (N := 7) (n := 7) htx xly_0 (htx _ (xTbl_in 146 (by decide +kernel) rfl))
  obtain ⟨c1, i1, k1⟩ := u_known (C := RX1) (T := TX1) (N := 2) (n := 2) htx xly_1 (htx _ (xTbl_in 181 (by decide +kernel) rfl))
  obtain ⟨c2, i2, k2⟩ := u_known (C := RX2) (T := TX2) (N := 8) (n := 8) htx xly_2 (htx _ (xTbl_in 95 (by decide +kernel) rfl))
  obtain ⟨c3, i3, k3⟩ := u_known (C := RX3) (T := TX3) (N := 13) (n := 13) htx xly_3 (htx _ (xTbl_in 87 (by decide +kernel) rfl))
  obtain ⟨c4, i4, k4⟩ := u_known (C := RX4) (T := TX4) (N := 18) (n := 18) htx xly_4 (htx _ (xTbl_in 800 (by decide +kernel) rfl))
  obtain ⟨D, hDk⟩ : ∃ D : va_G, ∀ (k : Nat) (q : vw_C), vwCl[k]? = some q → u_Kn s q.1 q.2.1 q.2.2 (D.1 k) (D.2 k) := by
    refine ⟨(fun k => if k = 0 then c0 else if k = 1 then c1 else if k = 2 then c2 else if k = 3 then c3 else c4, fun k => if k = 0 then i0 else if k = 1 then i1 else if k = 2 then i2 else if k = 3 then i3 else i4), ?_⟩
    intro k q hq
    match k, hq with
    | 0, hq => cases hq; exact k0
    | 1, hq => cases hq; exact k1
    | 2, hq => cases hq; exact k2
    | 3, hq => cases hq; exact k3
    | 4, hq => cases hq; exact k4
    | k + 5, hq => simp [vwCl] at hq
  obtain ⟨cI, kA, comp, hf, hk, hkind⟩ := Cond.arrayClass_spec (htx _ yw_arr)
  have hK : va_K D vwCl [(cI, .int)] s := ⟨hDk, fun k q hq => by
    match k, hq with
    | 0, hq => cases hq; exact ⟨fun n z => ⟨fun k h => (by cases h), kA, hk, comp, hkind⟩, hf⟩
    | k + 1, hq => simp at hq⟩
  have hKo : yKo D cI s := ⟨hK, va_Nw.of rfl (hts _ (List.mem_of_getElem? (i := 147) (by decide +kernel))), va_Nw.of rfl (hts _ (List.mem_of_getElem? (i := 182) (by decide +kernel)))⟩
  obtain ⟨tH, tL, sd, fm, hsta⟩ := y_sta hts hgv
  have hA : ∀ q : Nat, s.heap.size ≤ q → (fun q : Nat => s.heap.size ≤ q) q := fun _ h => h
  have hS : va_S (fun q : Nat => s.heap.size ≤ q) s.heap s.heap [] := va_S.rf
  have hP : va_P D vwCl [] s.heap := fun k q h => by simp at h
  have hD : va_D (fun q : Nat => s.heap.size ≤ q) [] := ⟨fun i j p q h => by simp at h, fun k q h => by simp at h⟩
  have hl := lv_entry ([.ref b]) (n := 4) (Nat.le_of_ble_eq_true rfl)
  rw [lg_entry_eq]
  generalize (lg_sl ([.ref b]) ++ List.replicate (4 - (lg_sl ([.ref b])).length) Slot.unset).toArray = ls at hl ⊢
  have hl : lv_has ls 4 [(0, .ref b)] := hl
  refine va_new (ci := 3) (fs := [.null, .null, .null, .int 0, .int 0, .null, .null, .null, .null, .int 0, .null, .int 0, .int 0]) (C := RX3) (T := TX3) (N := 13) (own := RL) (index := 7) hx hb htx xly_3 tyX3 tyX3_ok hown (htx _ (xTbl_in 86 (by decide +kernel) rfl)) (htx _ (xTbl_in 87 (by decide +kernel) rfl)) (htx _ (xTbl_in 72 (by decide +kernel) rfl)) hK hP hD hS hA rfl (fun j hj => by rcases (show j = 0 ∨ j = 1 ∨ j = 2 ∨ j = 3 ∨ j = 4 ∨ j = 5 ∨ j = 6 ∨ j = 7 ∨ j = 8 ∨ j = 9 ∨ j = 10 ∨ j = 11 ∨ j = 12 by omega) with rfl | rfl | rfl | rfl | rfl | rfl | rfl | rfl | rfl | rfl | rfl | rfl | rfl <;> rfl) (Nat.le_of_ble_eq_true rfl) (Nat.le_of_ble_eq_true rfl) (by decide +kernel) (fun q0 H hP hD hS => ?_)
  refine lv_dup hx hb (by decide +kernel) rfl ?_
  refine y_callI (ws := []) (mc := mX3_init) (idx := 9) (kc := 49) (nc := 2011) (own := RL) hx hb hml hl.1 hown htx hKo hA hP hD hS (by decide +kernel) yok3 rfl (xTbl_in 89 (by decide +kernel) rfl) (xTbl_in 88 (by decide +kernel) rfl) ⟨Nat.le_of_ble_eq_true rfl, Nat.le_of_ble_eq_true rfl⟩ cy_Class (Nat.le_of_ble_eq_true rfl) (Nat.le_of_ble_eq_true rfl) (Nat.le_of_ble_eq_true rfl) (fun w1 H locs hw1 hP hD hS => ?_)
  refine lv_astore_n (k := 1) (i := 1) (lv' := [(1, .ref q0), (0, .ref b)]) hx hb (by decide +kernel) rfl hl (by decide) rfl (fun ls hl => ?_)
  refine va_new (ci := 4) (fs := [.int 0, .null, .null, .null, .int 0, .null, .null, .int 0, .int 0, .int 0, .int 0, .null, .null, .null, .int 0, .null, .int 0, .int 0]) (C := RX4) (T := TX4) (N := 18) (own := RL) (index := 10) hx hb htx xly_4 tyX4 tyX4_ok hown (htx _ (xTbl_in 799 (by decide +kernel) rfl)) (htx _ (xTbl_in 800 (by decide +kernel) rfl)) (htx _ (xTbl_in 77 (by decide +kernel) rfl)) hK hP hD hS hA rfl (fun j hj => by rcases (show j = 0 ∨ j = 1 ∨ j = 2 ∨ j = 3 ∨ j = 4 ∨ j = 5 ∨ j = 6 ∨ j = 7 ∨ j = 8 ∨ j = 9 ∨ j = 10 ∨ j = 11 ∨ j = 12 ∨ j = 13 ∨ j = 14 ∨ j = 15 ∨ j = 16 ∨ j = 17 by omega) with rfl | rfl | rfl | rfl | rfl | rfl | rfl | rfl | rfl | rfl | rfl | rfl | rfl | rfl | rfl | rfl | rfl | rfl <;> rfl) (Nat.le_of_ble_eq_true rfl) (Nat.le_of_ble_eq_true rfl) (by decide +kernel) (fun m0 H hP hD hS => ?_)
  refine lv_dup hx hb (by decide +kernel) rfl ?_
  refine y_callI (ws := [] ++ w1) (mc := mX4_init) (idx := 12) (kc := 9) (nc := 1786) (own := RL) hx hb hml hl.1 hown htx hKo hA hP hD hS (by decide +kernel) yok4 rfl (xTbl_in 802 (by decide +kernel) rfl) (xTbl_in 801 (by decide +kernel) rfl) ⟨Nat.le_of_ble_eq_true rfl, Nat.le_of_ble_eq_true rfl⟩ cy_Model (Nat.le_of_ble_eq_true rfl) (Nat.le_of_ble_eq_true rfl) (Nat.le_of_ble_eq_true rfl) (fun w2 H locs hw2 hP hD hS => ?_)
  refine lv_astore_n (k := 2) (i := 2) (lv' := [(2, .ref m0), (1, .ref q0), (0, .ref b)]) hx hb (by decide +kernel) rfl hl (by decide) rfl (fun ls hl => ?_)
  refine lv_iconst (n := 0) (v := 0) hx hb (by decide +kernel) rfl ?_
  refine lv_istore_n (k := 3) (i := 3) (lv' := [(3, .int 0), (2, .ref m0), (1, .ref q0), (0, .ref b)]) hx hb (by decide +kernel) rfl hl (by decide) rfl (fun ls hl => ?_)
  refine W.widen (k := 60) (n := 3828) (Nat.le_of_ble_eq_true rfl) (Nat.le_of_ble_eq_true rfl) ?_
  obtain ⟨v1, v2, v3, k1, k2, t, a, bb, w1a, w2a, w3a, w4a, w5a, w6a, h1, h2, h3, h4, h5, h6, rfl⟩ := hw1
  obtain ⟨v1_1, v1_2, v1_3, v1_4, v1_5, v1_6, rfl⟩ := h1
  obtain ⟨v2_1, v2_2, v2_3, v2_4, v2_5, v2_6, rfl⟩ := h2
  obtain ⟨v3_1, v3_2, v3_3, v3_4, v3_5, v3_6, rfl⟩ := h3
  obtain ⟨k1v, k1_1, k1_2, k1_3, k1_4, wv4, wv4_h, rfl⟩ := h4
  obtain ⟨k1v_1, k1v_2, k1v_3, k1v_4, k1v_5, k1v_6, rfl⟩ := wv4_h
  obtain ⟨k2v, k2_1, k2_2, k2_3, k2_4, wv5, wv5_h, rfl⟩ := h5
  obtain ⟨k2v_1, k2v_2, k2v_3, k2v_4, k2v_5, k2v_6, rfl⟩ := wv5_h
  obtain ⟨t1, rfl⟩ := h6
  obtain ⟨m1, m2, m3, m4, m5, m6, m7, m8, m9, rfl⟩ := hw2
  obtain ⟨sa, hsa⟩ : ∃ sa : Nat → Nat, sa = fun p => if p = 100 then tH else if p = 101 then tL else if p < 130 then (sd (p - 110)).1 else (sd (p - 130)).2 := ⟨_, rfl⟩
  obtain ⟨E, hE⟩ : ∃ E : xE, E = (D, (fun p => if p < 60 then ([q0, v1, v1_1, v1_2, v1_3, v1_4, v1_5, v1_6, v2, v2_1, v2_2, v2_3, v2_4, v2_5, v2_6, v3, v3_1, v3_2, v3_3, v3_4, v3_5, v3_6, k1, k1v, k1v_1, k1v_2, k1v_3, k1v_4, k1v_5, k1v_6, k1_1, k1_2, k1_3, k1_4, k2, k2v, k2v_1, k2v_2, k2v_3, k2v_4, k2v_5, k2v_6, k2_1, k2_2, k2_3, k2_4, t, t1, a, bb, m0, m1, m2, m3, m4, m5, m6, m7, m8, m9] : List Nat).getD p 0 else sa p), cI, s.heap.size, fm) := ⟨_, rfl⟩
  have hws : xws E M0 = ((q0, .inr (3, [.ref v1, .ref v2, .ref v3, .int 0, .int 0, .ref k1, .ref k2, .ref t, .ref a, .int 0, .ref bb, .int 0, .int 0])) :: ((volW cI v1 v1_1 v1_2 v1_3 v1_4 v1_5 v1_6) ++ ((volW cI v2 v2_1 v2_2 v2_3 v2_4 v2_5 v2_6) ++ ((volW cI v3 v3_1 v3_2 v3_3 v3_4 v3_5 v3_6) ++ ((chkW cI k1 k1v k1_1 k1_2 k1_3 k1_4 (volW cI k1v k1v_1 k1v_2 k1v_3 k1v_4 k1v_5 k1v_6)) ++ ((chkW cI k2 k2v k2_1 k2_2 k2_3 k2_4 (volW cI k2v k2v_1 k2v_2 k2v_3 k2v_4 k2v_5 k2v_6)) ++ ([(t, .inr (1, [.ref t1, .int 0])), (t1, .inl (cI, 96, .inl zF))] ++ [(a, .inl (cI, 32, .inl zF)), (bb, .inl (cI, 7, .inl zF))]))))))) ++ (modW cI m0 m1 m2 m3 m4 m5 m6 m7 m8 m9 mF2) := by rw [hE]; exact xws_0
  have eq0 : xeA E 0 = q0 := by rw [hE]; rfl
  have eq50 : xeA E 50 = m0 := by rw [hE]; rfl
  have eD : xeD E = D := by rw [hE]
  have eB : xeB E = s.heap.size := by rw [hE]
  have eC : xeC E = cI := by rw [hE]
  have eA : xA E = fun q : Nat => s.heap.size ≤ q := by funext q; show (xeB E ≤ q) = _; rw [eB]
  have st := hsta E (by rw [hE, hsa]; rfl) (by rw [hE, hsa]; rfl) (fun i hi => by
    rw [hE, hsa]
    refine ⟨?_, ?_⟩
    · show (if 110 + i < 60 then _ else if 110 + i = 100 then tH else if 110 + i = 101 then tL else if 110 + i < 130 then (sd (110 + i - 110)).1 else (sd (110 + i - 130)).2) = _
      rw [if_neg (by omega), if_neg (by omega), if_neg (by omega), if_pos (by omega), show 110 + i - 110 = i by omega]
    · show (if 130 + i < 60 then _ else if 130 + i = 100 then tH else if 130 + i = 101 then tL else if 130 + i < 130 then (sd (130 + i - 110)).1 else (sd (130 + i - 130)).2) = _
      rw [if_neg (by omega), if_neg (by omega), if_neg (by omega), if_neg (by omega), show 130 + i - 130 = i by omega]) (by rw [hE]) eB
  have hKx : xK E s s.heap := ⟨by rw [eD, eC]; exact hK, st.1, st.2⟩
  refine law_go (E := E) (xs := xs) hL 600 0 M0 Inv_0 (by omega) (by omega) p e s m below meth c H locs ls b ⟨hx, hb, hr, hml, hown, htx, hX, hbl, hlocks, hKx, eB⟩ ?_ ?_ (by rw [eA]; exact hS) (by rw [eq0, eq50]; exact hl)
  · rw [hws, eD]; exact hP
  · rw [hws, eA]; exact hD
