/-! a CHECK over numbers: what it asks (reason, who, place) and what it leaves -/
abbrev aQ : Type := List (Nat × Nat × Nat)
abbrev aT : Type := (Nat → Nat) × aQ
def pPtr (rf : Nat → Bool) (T : aT) (k : Nat) : aT :=
  if T.1 (30 + k) = 99 then T
  else if aHolds (T.1 (k / 3)) ≤ k % 3 then (aUp T.1 (30 + k) 99, T.2 ++ [(2, k / 3, k % 3)])
  else if 24 ≤ T.1 (30 + k) then (aUp T.1 (30 + k) 99, T.2 ++ [(3, k / 3, k % 3)])
  else if rf 4 = false ∧ anyN (aTo T.1 (T.1 (30 + k))) k = true then
    (if T.1 (k / 3) ≠ 4 ∧ fa_first (fun b => !aPt T.1 b) 24 < 24 then aUp (aUp T.1 (120 + fa_first (fun b => !aPt T.1 b) 24) (T.1 (120 + T.1 (30 + k)))) (30 + k) (fa_first (fun b => !aPt T.1 b) 24) else aUp T.1 (30 + k) 99, T.2 ++ [(4, k / 3, k % 3)])
  else T
def pFault (A : Nat → Nat) (k : Nat) : Nat :=
  if aLists (A (k / 6)) ≤ k % 6 then 5
  else if A (60 + k) / 26 = 0 ∨ A (A (60 + k) / 26) = 0 then 6
  else if anyN (fun q => aFull A (6 * (k / 6) + q) && (A (60 + (6 * (k / 6) + q)) % 26 == A (60 + k) % 26)) (k % 6) = true then 7
  else if aDir A (A (60 + k) / 26) = true ∧ anyN (aEnt A (A (60 + k) / 26)) k = true then 8 else 0
def pEnt (T : aT) (k : Nat) : aT :=
  if T.1 (60 + k) = 260 then T else if pFault T.1 k = 0 then T else (aUp T.1 (60 + k) 260, T.2 ++ [(pFault T.1 k, k / 6, k % 6)])
def pIter {α : Type} (f : α → Nat → α) (T : α) : Nat → α
  | 0 => T
  | n + 1 => f (pIter f T n) n
def pSlot (A : Nat → Nat) : Nat := fa_first (fun s => A (60 + s) == 260) (aLists (A 0))
def pName (A : Nat → Nat) : Nat := fa_first (fun nm => !aNm A 0 nm) 26
def pAtt (A : Nat → Nat) (i : Nat) : (Nat → Nat) × Nat := if pSlot A < aLists (A 0) then (aUp A (60 + pSlot A) (26 * i + pName A), pSlot A) else (aWipe A i 0, 6)
def pApart (A : Nat → Nat) (t : Nat) : Bool := aDir A t && !aS A 0 10 t
def pAlone (A : Nat → Nat) (t : Nat) : Bool := pApart A t && !aNx A (fun _ => true) t
def pPick (A : Nat → Nat) : Nat := if anyN (pAlone A) 10 = true then fa_first (pAlone A) 10 else fa_first (pApart A) 10
def pCut (T : aT) (i : Nat) : aT := if fa_first (aEnt T.1 i) 60 < 60 then (aUp T.1 (60 + fa_first (aEnt T.1 i) 60) 260, T.2 ++ [(9, i, fa_first (aEnt T.1 i) 60 / 6)]) else T
def pJoin (T : aT) (i : Nat) : aT := ((pAtt T.1 i).1, T.2 ++ [(if (pAtt T.1 i).2 = 6 then 11 else 10, i, if (pAtt T.1 i).2 = 6 then 0 else (pAtt T.1 i).2)])
def pConn (T : aT) : aT := if anyN (pApart T.1) 10 = true then pJoin (if anyN (pAlone T.1) 10 = true then T else pCut T (pPick T.1)) (pPick T.1) else T
def pConns (T : aT) : Nat → aT
  | 0 => T
  | n + 1 => pConns (pConn T) n
def pDue (A : Nat → Nat) (i : Nat) : Nat := if i = 0 then 0 else if fa_first (aEnt A i) 60 < 60 then fa_first (aEnt A i) 60 / 6 else A (20 + i)
def pPar (rf : Nat → Bool) (T : aT) (i : Nat) : aT := if aDir T.1 i = true ∧ T.1 (20 + i) ≠ pDue T.1 i ∧ rf 12 = false then (aUp T.1 (20 + i) (pDue T.1 i), T.2 ++ [(12, i, T.1 (20 + i))]) else T
def pNum (A : Nat → Nat) (i : Nat) : Nat := if fb_ct (aEnt A i) 60 < 9 then fb_ct (aEnt A i) 60 else 9
def pLone (T : aT) (i : Nat) : aT := if aUse T.1 i = true ∧ aDir T.1 i = false ∧ fb_ct (aEnt T.1 i) 60 = 0 then ((pAtt T.1 i).1, T.2 ++ [(13, i, (pAtt T.1 i).2)]) else T
def pLink (rf : Nat → Bool) (T : aT) (i : Nat) : aT := if T.1 (10 + i) ≠ pNum T.1 i ∧ rf 14 = false then (aUp T.1 (10 + i) (pNum T.1 i), T.2 ++ [(14, i, T.1 (10 + i))]) else T
def pCnt (rf : Nat → Bool) (T : aT) (i : Nat) : aT := pLink rf (pLone T i) i
def pBm (rf : Nat → Bool) (T : aT) (b : Nat) : aT := if (T.1 144).testBit b ≠ aPt T.1 b ∧ rf 15 = false then (aUp T.1 144 (T.1 144 ^^^ 2 ^ b), T.2 ++ [(15, b, 0)]) else T
def pIm (rf : Nat → Bool) (T : aT) (i : Nat) : aT := if (T.1 145).testBit i ≠ aUse T.1 i ∧ rf 16 = false then (aUp T.1 145 (T.1 145 ^^^ 2 ^ i), T.2 ++ [(16, i, 0)]) else T
def pRoot (A : Nat → Nat) : aT := if aDir A 0 = true then (A, []) else (aWipe A 0 2, [(1, 0, 0)])
def pChk1 (rf : Nat → Bool) (A : Nat → Nat) : aT := pIter (pPtr rf) (pRoot A) 30
def pChk2 (rf : Nat → Bool) (A : Nat → Nat) : aT := pIter pEnt (pChk1 rf A) 60
def pChk3 (rf : Nat → Bool) (A : Nat → Nat) : aT := pConns (pChk2 rf A) 10
def pChk4 (rf : Nat → Bool) (A : Nat → Nat) : aT := pIter (pPar rf) (pChk3 rf A) 10
def pChk5 (rf : Nat → Bool) (A : Nat → Nat) : aT := pIter (pCnt rf) (pChk4 rf A) 10
def pChk6 (rf : Nat → Bool) (A : Nat → Nat) : aT := pIter (pBm rf) (pChk5 rf A) 24
def pChk (rf : Nat → Bool) (A : Nat → Nat) : aT := pIter (pIm rf) (pChk6 rf A) 10
-- the class's Check at c holds a check so far
def qAt (M : xM) (a b d : Nat) (q : aQ) : Prop := ∀ j, j < q.length → M a j = nI (q.getD j (0, 0, 0)).1 ∧ M b j = nI (q.getD j (0, 0, 0)).2.1 ∧ M d j = nI (q.getD j (0, 0, 0)).2.2
def CK (M : xM) (c : Nat) (rf : Nat → Bool) (T : aT) : Prop := CV M (c + 1) T.1 ∧ aOK T.1 ∧ M c 4 = nI T.2.length ∧ M c 6 = bs rf 17 ∧ qAt M (c + 8) (c + 9) (c + 10) T.2
/-- which reasons may be refused -/
def rfOK (rf : Nat → Bool) : Prop := ∀ r, rf r = true → r = 4 ∨ r = 12 ∨ r = 14 ∨ r = 15 ∨ r = 16
theorem xup_n {M : xM} {a p k : Nat} {x : Int32} (h : a ≠ p) : xup M p k x a = M a := xup_ne M k x h
theorem qAt_add {M : xM} {a b d r w p : Nat} {q : aQ} (h : qAt M a b d q) (hab : a ≠ b) (had : a ≠ d) (hbd : b ≠ d) : qAt (xup (xup (xup M a q.length (nI r)) b q.length (nI w)) d q.length (nI p)) a b d (q ++ [(r, w, p)]) := by
  intro j hj
  rw [List.length_append, List.length_singleton] at hj
  rw [xup_n had, xup_n hab, xup_at, xup_n hbd, xup_at, xup_at, xup_n (Ne.symm hab), xup_n (Ne.symm hbd), xup_n (Ne.symm had)]
  unfold upd
  by_cases e : j = q.length
  · subst e
    simp
  · have hj2 : j < q.length := by omega
    rw [if_neg e, if_neg e, if_neg e]
    have e2 : (q ++ [(r, w, p)]).getD j (0, 0, 0) = q.getD j (0, 0, 0) := by
      simp [List.getD_eq_getElem?_getD, List.getElem?_append_left hj2]
    rw [e2]
    exact h j hj2
theorem qAt_cong {M M' : xM} {a b d : Nat} {q : aQ} (h : qAt M a b d q) (ha : M' a = M a) (hb : M' b = M b) (hd : M' d = M d) : qAt M' a b d q := fun j hj => by
  rw [ha, hb, hd]; exact h j hj
theorem CK_vol {M M' : xM} {c : Nat} {rf : Nat → Bool} {T : aT} {A : Nat → Nat} (h : CK M c rf T) (hC : CV M' (c + 1) A) (hO : aOK A) (hs : sOff (c + 1) (c + 1 + 6) M M') : CK M' c rf (A, T.2) := by
  obtain ⟨-, -, h3, h4, h5⟩ := h
  have e0 := hs c (by omega)
  exact ⟨hC, hO, by rw [e0]; exact h3, by rw [e0]; exact h4, qAt_cong h5 (hs _ (by omega)) (hs _ (by omega)) (hs _ (by omega))⟩
theorem r_asks {M : xM} {c r w p : Nat} {rf : Nat → Bool} {T : aT} {Q : Int32 → xM → Prop} (hK : CK M c rf T) (hr : r < 17) (hl : T.2.length < 180) (h1 : rf r = true → Q 0 M) (h0 : rf r = false → ∀ M', CK M' c rf (T.1, T.2 ++ [(r, w, p)]) → sOff c (c + 11) M M' → (∀ d, d < 7 → M' (c + 1 + d) = M (c + 1 + d)) → M' (c + 11) = M (c + 11) → Q 1 M') : wX0_asks M c (nI r) (nI w) (nI p) Q := by
  obtain ⟨k1, k2, k3, k4, k5⟩ := hK
  unfold wX0_asks wX0_asks_21
  rw [k4, bs_test rf (by omega) hr]
  refine ⟨fun z => h1 ?_, fun z => ?_⟩
  · cases h : rf r with
    | true => rfl
    | false => rw [h] at z; exact absurd rfl z
  · have hf : rf r = false := by
      cases h : rf r with
      | false => rfl
      | true => rw [h, if_pos rfl] at z; exact absurd z (by decide)
    simp (disch := omega) only [zl, xup_n, k3, z_lt, z_in, z_cl, z_add]
    refine ⟨fun _ => ⟨hl, hl, hl, ?_⟩, fun z => absurd hl z⟩
    have hq5 := qAt_add (r := r) (w := w) (p := p) k5 (show c + 8 ≠ c + 9 by omega) (show c + 8 ≠ c + 10 by omega) (show c + 9 ≠ c + 10 by omega)
    refine h0 hf _ ⟨CV_same k1 fun d hd => ?_, k2, ?_, ?_, qAt_cong hq5 (xup_n (by omega)) (xup_n (by omega)) (xup_n (by omega))⟩ (fun q hq => ?_) (fun d hd => ?_) ?_
    · rw [xup_n (by omega), xup_n (by omega), xup_n (by omega), xup_n (by omega)]
    · rw [xup_at]; simp [upd]
    · rw [xup_at]; unfold upd; rw [if_neg (by omega), xup_n (by omega), xup_n (by omega), xup_n (by omega)]; exact k4
    · rw [xup_n (by omega), xup_n (by omega), xup_n (by omega), xup_n (by omega)]
    · rw [xup_n (by omega), xup_n (by omega), xup_n (by omega), xup_n (by omega)]
    · rw [xup_n (by omega), xup_n (by omega), xup_n (by omega), xup_n (by omega)]
