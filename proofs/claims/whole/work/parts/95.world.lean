/-! the whole start; the claim -/
theorem xws_is {E : xE} {M : xM} {ws : va_W} (h : ws.length = 60) (k : ∀ p, p < 60 → ws[p]? = some (xeA E p, xcell E M p)) : xws E M = ws := by
  apply List.ext_getElem?
  intro i
  by_cases hi : i < 60
  · rw [xws_get E M hi, k i hi]
  · rw [List.getElem?_eq_none (by unfold xws; simp; omega), List.getElem?_eq_none (by omega)]
set_option maxRecDepth 100000 in
set_option maxHeartbeats 8000000 in
theorem xws_0 {D : va_G} {cI : ClassId} {B : Nat} {fm : Value} {sa : Nat → Nat} {q0 v1 v1_1 v1_2 v1_3 v1_4 v1_5 v1_6 v2 v2_1 v2_2 v2_3 v2_4 v2_5 v2_6 v3 v3_1 v3_2 v3_3 v3_4 v3_5 v3_6 k1 k1v k1v_1 k1v_2 k1v_3 k1v_4 k1v_5 k1v_6 k1_1 k1_2 k1_3 k1_4 k2 k2v k2v_1 k2v_2 k2v_3 k2v_4 k2v_5 k2v_6 k2_1 k2_2 k2_3 k2_4 t t1 a bb m0 m1 m2 m3 m4 m5 m6 m7 m8 m9 : Nat} : xws (D, (fun p => if p < 60 then ([q0, v1, v1_1, v1_2, v1_3, v1_4, v1_5, v1_6, v2, v2_1, v2_2, v2_3, v2_4, v2_5, v2_6, v3, v3_1, v3_2, v3_3, v3_4, v3_5, v3_6, k1, k1v, k1v_1, k1v_2, k1v_3, k1v_4, k1v_5, k1v_6, k1_1, k1_2, k1_3, k1_4, k2, k2v, k2v_1, k2v_2, k2v_3, k2v_4, k2v_5, k2v_6, k2_1, k2_2, k2_3, k2_4, t, t1, a, bb, m0, m1, m2, m3, m4, m5, m6, m7, m8, m9] : List Nat).getD p 0 else sa p), cI, B, fm) M0 = ((q0, .inr (3, [.ref v1, .ref v2, .ref v3, .int 0, .int 0, .ref k1, .ref k2, .ref t, .ref a, .int 0, .ref bb, .int 0, .int 0])) :: ((volW cI v1 v1_1 v1_2 v1_3 v1_4 v1_5 v1_6) ++ ((volW cI v2 v2_1 v2_2 v2_3 v2_4 v2_5 v2_6) ++ ((volW cI v3 v3_1 v3_2 v3_3 v3_4 v3_5 v3_6) ++ ((chkW cI k1 k1v k1_1 k1_2 k1_3 k1_4 (volW cI k1v k1v_1 k1v_2 k1v_3 k1v_4 k1v_5 k1v_6)) ++ ((chkW cI k2 k2v k2_1 k2_2 k2_3 k2_4 (volW cI k2v k2v_1 k2v_2 k2v_3 k2v_4 k2v_5 k2v_6)) ++ ([(t, .inr (1, [.ref t1, .int 0])), (t1, .inl (cI, 96, .inl zF))] ++ [(a, .inl (cI, 32, .inl zF)), (bb, .inl (cI, 7, .inl zF))]))))))) ++ (modW cI m0 m1 m2 m3 m4 m5 m6 m7 m8 m9 mF2) := by
  refine xws_is rfl (fun p hp => ?_)
  match p, hp with
  | 0, _ => rfl
  | 1, _ => rfl
  | 2, _ => rfl
  | 3, _ => rfl
  | 4, _ => rfl
  | 5, _ => rfl
  | 6, _ => rfl
  | 7, _ => rfl
  | 8, _ => rfl
  | 9, _ => rfl
  | 10, _ => rfl
  | 11, _ => rfl
  | 12, _ => rfl
  | 13, _ => rfl
  | 14, _ => rfl
  | 15, _ => rfl
  | 16, _ => rfl
  | 17, _ => rfl
  | 18, _ => rfl
  | 19, _ => rfl
  | 20, _ => rfl
  | 21, _ => rfl
  | 22, _ => rfl
  | 23, _ => rfl
  | 24, _ => rfl
  | 25, _ => rfl
  | 26, _ => rfl
  | 27, _ => rfl
  | 28, _ => rfl
  | 29, _ => rfl
  | 30, _ => rfl
  | 31, _ => rfl
  | 32, _ => rfl
  | 33, _ => rfl
  | 34, _ => rfl
  | 35, _ => rfl
  | 36, _ => rfl
  | 37, _ => rfl
  | 38, _ => rfl
  | 39, _ => rfl
  | 40, _ => rfl
  | 41, _ => rfl
  | 42, _ => rfl
  | 43, _ => rfl
  | 44, _ => rfl
  | 45, _ => rfl
  | 46, _ => rfl
  | 47, _ => rfl
  | 48, _ => rfl
  | 49, _ => rfl
  | 50, _ => rfl
  | 51, _ => rfl
  | 52, _ => rfl
  | 53, _ => rfl
  | 54, _ => rfl
  | 55, _ => rfl
  | 56, _ => rfl
  | 57, _ => rfl
  | 58, _ => rfl
  | 59, _ => rfl
  | p + 60, hp => exact absurd hp (by omega)
