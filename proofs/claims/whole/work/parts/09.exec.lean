/-! xs: a straight stretch of code, computed; Gx_run: the machine follows it -/
/-- an instruction, its length, two numbers of ours, a constant -/
abbrev xI : Type := Instr × Nat × Nat × Nat × Int32
abbrev xO : Type := Option (List Prop × xM × List (Option Value) × List Value)
def xldI (M : xM) (L : List (Option Value)) (st : List Value) (i : Nat) : xO := match L[i]? with | some (some (.int x)) => some ([], M, L, .int x :: st) | _ => none
def xldJ (M : xM) (L : List (Option Value)) (st : List Value) (i : Nat) : xO := match L[i]? with | some (some (.long x)) => some ([], M, L, .long x :: st) | _ => none
def xldA (M : xM) (L : List (Option Value)) (st : List Value) (i : Nat) : xO := match L[i]? with | some (some (.ref x)) => some ([], M, L, .ref x :: st) | _ => none
def xstI (M : xM) (L : List (Option Value)) (st : List Value) (i : Nat) : xO := match st with | .int x :: r => if xfree L i = true then some ([], M, L.set i (some (.int x)), r) else none | _ => none
def xstJ (M : xM) (L : List (Option Value)) (st : List Value) (i : Nat) : xO := match st with | .long x :: r => if xfree L i = true ∧ i + 1 < L.length then some ([], M, (L.set i (some (.long x))).set (i + 1) none, r) else none | _ => none
def xstA (M : xM) (L : List (Option Value)) (st : List Value) (i : Nat) : xO := match st with | .ref x :: r => if xfree L i = true then some ([x ≠ 103], M, L.set i (some (.ref x)), r) else none | _ => none
def xii (M : xM) (L : List (Option Value)) (st : List Value) (f : Int32 → Int32 → Int32) (c : Int32 → List Prop) : xO := match st with | .int y :: .int x :: r => some (c y, M, L, .int (f x y) :: r) | _ => none
def xjj (M : xM) (L : List (Option Value)) (st : List Value) (f : Int64 → Int64 → Int64) (c : Int64 → List Prop) : xO := match st with | .long y :: .long x :: r => some (c y, M, L, .long (f x y) :: r) | _ => none
def xi1 (M : xM) (L : List (Option Value)) (st : List Value) (f : Int32 → Int32) : xO := match st with | .int x :: r => some ([], M, L, .int (f x) :: r) | _ => none
def xgetf1 (M : xM) (L : List (Option Value)) (r : List Value) (a b p : Nat) : xO := if a = 9 then (if b = 0 then some ([110 ≤ p, p < 119], M, L, .ref (p + 20) :: r) else some ([110 ≤ p, p < 119], M, L, .int 0 :: r)) else match xfo a b with | some o => some ([xkd p = a], M, L, .ref (p + o) :: r) | none => some ([xkd p = a], M, L, .int (M p b) :: r)
def xgetf (M : xM) (L : List (Option Value)) (st : List Value) (a b : Nat) : xO := match st with
  | .ref p :: r => xgetf1 M L r a b p
  | _ => none
def xputf (M : xM) (L : List (Option Value)) (st : List Value) (a b : Nat) : xO := match st with
  | .int x :: .ref p :: r => match xfo a b with | some _ => none | none => if xbit a b = true then some ([xkd p = a, x = 0 ∨ x = 1], xup M p b x, L, r) else some ([xkd p = a], xup M p b x, L, r)
  | _ => none
def xaldf (M : xM) (L : List (Option Value)) (st : List Value) (a : Nat) : xO := match st with
  | .int i :: .ref p :: r => if a = 0 then some ([xkd p = 5, vp_in i (xln p)], M, L, .int (M p i.toNatClampNeg) :: r) else if a = 1 then some ([p = 100, vp_in i 6], M, L, .int (xhold i.toNatClampNeg) :: r) else some ([p = 101, vp_in i 6], M, L, .int (xlist i.toNatClampNeg) :: r)
  | _ => none
def xastf (M : xM) (L : List (Option Value)) (st : List Value) : xO := match st with
  | .int x :: .int i :: .ref p :: r => some ([xkd p = 5, vp_in i (xln p)], xup M p i.toNatClampNeg x, L, r)
  | _ => none
def xbldf1 (M : xM) (L : List (Option Value)) (r : List Value) (i : Int32) (p : Nat) : xO := some ([130 ≤ p, p < 139, vp_in i (xsl (p - 130))], M, L, .int (xsb (p - 130) i.toNatClampNeg) :: r)
def xbldf (M : xM) (L : List (Option Value)) (st : List Value) : xO := match st with
  | .int i :: .ref p :: r => xbldf1 M L r i p
  | _ => none
def xlenf1 (M : xM) (L : List (Option Value)) (r : List Value) (a p : Nat) : xO := if a = 0 then some ([xkd p = 5], M, L, .int (nI (xln p)) :: r) else some ([130 ≤ p, p < 139], M, L, .int (nI (xsl (p - 130))) :: r)
def xlenf (M : xM) (L : List (Option Value)) (st : List Value) (a : Nat) : xO := match st with
  | .ref p :: r => xlenf1 M L r a p
  | _ => none
def xdup (M : xM) (L : List (Option Value)) (st : List Value) : xO := match st with | .int x :: r => some ([], M, L, .int x :: .int x :: r) | .ref x :: r => some ([], M, L, .ref x :: .ref x :: r) | _ => none
def xdup2 (M : xM) (L : List (Option Value)) (st : List Value) : xO := match st with | .int x :: .ref y :: r => some ([], M, L, .int x :: .ref y :: .int x :: .ref y :: r) | _ => none
def xpop (M : xM) (L : List (Option Value)) (st : List Value) : xO := match st with | .int _ :: r => some ([], M, L, r) | _ => none
def xinc (M : xM) (L : List (Option Value)) (st : List Value) (i : Nat) (v : Int32) : xO := match L[i]? with | some (some (.int x)) => if xfree L i = true then some ([], M, L.set i (some (.int (x + v))), st) else none | _ => none
def x1 (M : xM) (L : List (Option Value)) (st : List Value) (a b : Nat) (v : Int32) : Instr → xO
  | .iload_n k => xldI M L st k | .iload k => xldI M L st k
  | .lload_n k => xldJ M L st k | .lload k => xldJ M L st k
  | .aload_n k => xldA M L st k
  | .istore_n k => xstI M L st k | .istore k => xstI M L st k
  | .lstore_n k => xstJ M L st k | .lstore k => xstJ M L st k
  | .astore_n k => xstA M L st k
  | .iconst _ => some ([], M, L, .int v :: st) | .bipush _ => some ([], M, L, .int v :: st) | .sipush _ => some ([], M, L, .int v :: st)
  | .lconst k => some ([], M, L, .long (if (k : Nat) = 0 then 0 else 1) :: st)
  | .iinc k _ => xinc M L st k v
  | .iadd => xii M L st (fun x y => x + y) (fun _ => []) | .isub => xii M L st (fun x y => x - y) (fun _ => []) | .imul => xii M L st (fun x y => x * y) (fun _ => [])
  | .iand => xii M L st (fun x y => x &&& y) (fun _ => []) | .ior => xii M L st (fun x y => x ||| y) (fun _ => []) | .ixor => xii M L st (fun x y => x ^^^ y) (fun _ => [])
  | .ishl => xii M L st (fun x y => x <<< (y &&& 31)) (fun _ => []) | .ishr => xii M L st (fun x y => x >>> (y &&& 31)) (fun _ => [])
  | .iushr => xii M L st (fun x y => (x.toUInt32 >>> (y.toUInt32 &&& Int32.toUInt32 31)).toInt32) (fun _ => [])
  | .idiv => xii M L st (fun x y => x / y) (fun y => [¬ y = 0]) | .irem => xii M L st (fun x y => x - x / y * y) (fun y => [¬ y = 0])
  | .ineg => xi1 M L st (fun x => -x) | .i2b => xi1 M L st (fun x => x.toInt8.toInt32) | .i2c => xi1 M L st (fun x => (x.toUInt32 % 65536).toInt32)
  | .ladd => xjj M L st (fun x y => x + y) (fun _ => []) | .lsub => xjj M L st (fun x y => x - y) (fun _ => []) | .lmul => xjj M L st (fun x y => x * y) (fun _ => [])
  | .ldiv => xjj M L st (fun x y => x / y) (fun y => [¬ y = 0]) | .lrem => xjj M L st (fun x y => x - x / y * y) (fun y => [¬ y = 0])
  | .lcmp => match st with | .long y :: .long x :: r => some ([], M, L, .int (lg_cmp x y) :: r) | _ => none
  | .i2l => match st with | .int x :: r => some ([], M, L, .long x.toInt64 :: r) | _ => none
  | .dup => xdup M L st | .dup2 => xdup2 M L st | .pop => xpop M L st
  | .getfield _ => xgetf M L st a b | .putfield _ => xputf M L st a b
  | .getstatic _ => some ([], M, L, xgv a :: st)
  | .iaload => xaldf M L st a | .iastore => xastf M L st | .baload => xbldf M L st | .arraylength => xlenf M L st a
  | .ldc _ => if a = 0 then some ([], M, L, .int v :: st) else some ([], M, L, .ref (110 + b) :: st)
  | .ldc_w _ => some ([], M, L, .int v :: st)
  | .ldc2_w _ => some ([], M, L, .long 4000000000000000000 :: st)
  | _ => none
/-- the length of an instruction; what must be so of its numbers -/
def xlk (own : Nat) (a b : Nat) (v : Int32) (n : Nat) : Instr → Bool
  | .iload _ | .lload _ | .istore _ | .lstore _ => n == 2
  | .iconst k => n == 1 && decide (Int32.ofInt k = v)
  | .bipush k => n == 2 && decide ((Int8.ofInt k).toInt32 = v)
  | .sipush k => n == 3 && decide ((Int16.ofInt k).toInt32 = v)
  | .lconst k => n == 1 && decide (Int64.ofNat (k : Nat) = if (k : Nat) = 0 then 0 else 1)
  | .iinc _ k => n == 3 && decide (Int32.ofInt k = v)
  | .getfield i => n == 3 && decide ((own, i, a, b) ∈ xft) && (a == 9 || (decide (a < 5) && decide (b < xnf a))) && (a != 9 || b == 0 || b == 1)
  | .putfield i => n == 3 && decide ((own, i, a, b) ∈ xft) && (decide (a < 5) && decide (b < xnf a))
  | .getstatic i => n == 3 && ((decide ((own, i, a) ∈ xgt) && decide (a < 4)) || decide ((own, i, a) ∈ xgn))
  | .ldc i => n == 2 && (if a = 0 then decide ((own, i, v) ∈ xct) else match xstO[b]? with | some q => q.1 == own && q.2.1 == i | none => false)
  | .ldc_w i => n == 3 && decide ((own, i, v) ∈ xct)
  | .ldc2_w i => n == 3 && (decide ((own, i) = (3, 201)) || decide ((own, i) = (4, 41)))
  | _ => n == 1
def xcode (cc : ByteArray) (own : Nat) : Nat → List xI → Bool
  | _, [] => true
  | pc, e :: es => decide (decode cc pc = .ok (e.1, e.2.1)) && xlk own e.2.2.1 e.2.2.2.1 e.2.2.2.2 e.2.1 e.1 && xcode cc own (pc + e.2.1) es
def xs : List xI → xM → List (Option Value) → List Value → xO
  | [], M, L, st => some ([], M, L, st)
  | e :: es, M, L, st => match x1 M L st e.2.2.1 e.2.2.2.1 e.2.2.2.2 e.1 with
    | some (P, M', L', st') => match xs es M' L' st' with
      | some (P2, r) => some (P ++ P2, r)
      | none => none
    | none => none
def xall : List Prop → Prop
  | [] => True
  | p :: ps => p ∧ xall ps
theorem xall_app {a b : List Prop} (h : xall (a ++ b)) : xall a ∧ xall b := by
  induction a with
  | nil => exact ⟨trivial, h⟩
  | cons p a ih => exact ⟨⟨h.1, (ih h.2).1⟩, (ih h.2).2⟩
def xlen (es : List xI) : Nat := (es.map (fun e => e.2.1)).sum
section XX
variable {l : Launch} {E : xE} {m : xMt} {R : Option Value → xM → Prop} {pc : Nat} {M : xM} {L : List (Option Value)} {st : List Value}
set_option maxHeartbeats 4000000 in
theorem Gx_1 {i : Instr} {n a b : Nat} {v : Int32} {P : List Prop} {M' : xM} {L' : List (Option Value)} {st' : List Value} (hd : decode (xmb m) pc = .ok (i, n)) (hk : xlk (xmo m) a b v n i = true) (h : x1 M L st a b v i = some (P, M', L', st')) (hP : xall P) (k : Gx l E m R (pc + n) M' L' st') : Gx l E m R pc M L st := by
  cases i
  case iload_n j =>
    have hn : n = 1 := by simpa [xlk] using hk
    subst hn
    simp only [x1, xldI] at h
    split at h
    · rename_i hx
      cases h
      exact Gx_iload_n hd hx k
    · cases h
  case iload j =>
    have hn : n = 2 := by simpa [xlk] using hk
    subst hn
    simp only [x1, xldI] at h
    split at h
    · rename_i hx
      cases h
      exact Gx_iload hd hx k
    · cases h
  case lload_n j =>
    have hn : n = 1 := by simpa [xlk] using hk
    subst hn
    simp only [x1, xldJ] at h
    split at h
    · rename_i hx
      cases h
      exact Gx_lload_n hd hx k
    · cases h
  case lload j =>
    have hn : n = 2 := by simpa [xlk] using hk
    subst hn
    simp only [x1, xldJ] at h
    split at h
    · rename_i hx
      cases h
      exact Gx_lload hd hx k
    · cases h
  case aload_n j =>
    have hn : n = 1 := by simpa [xlk] using hk
    subst hn
    simp only [x1, xldA] at h
    split at h
    · rename_i hx
      cases h
      exact Gx_aload_n hd hx k
    · cases h
  case istore_n j =>
    have hn : n = 1 := by simpa [xlk] using hk
    subst hn
    simp only [x1, xstI] at h
    split at h
    · split at h
      · rename_i hf
        cases h
        exact Gx_istore_n hd hf k
      · cases h
    · cases h
  case istore j =>
    have hn : n = 2 := by simpa [xlk] using hk
    subst hn
    simp only [x1, xstI] at h
    split at h
    · split at h
      · rename_i hf
        cases h
        exact Gx_istore hd hf k
      · cases h
    · cases h
  case lstore_n j =>
    have hn : n = 1 := by simpa [xlk] using hk
    subst hn
    simp only [x1, xstJ] at h
    split at h
    · split at h
      · rename_i hf
        cases h
        exact Gx_lstore_n hd hf.1 hf.2 k
      · cases h
    · cases h
  case lstore j =>
    have hn : n = 2 := by simpa [xlk] using hk
    subst hn
    simp only [x1, xstJ] at h
    split at h
    · split at h
      · rename_i hf
        cases h
        exact Gx_lstore hd hf.1 hf.2 k
      · cases h
    · cases h
  case astore_n j =>
    have hn : n = 1 := by simpa [xlk] using hk
    subst hn
    simp only [x1, xstA] at h
    split at h
    · split at h
      · rename_i hf
        cases h
        exact Gx_astore_n hP.1 hd hf k
      · cases h
    · cases h
  case iconst j =>
    obtain ⟨hn, hv⟩ : n = 1 ∧ _ = v := by simpa [xlk] using hk
    subst hn
    simp only [x1] at h
    cases h
    exact Gx_iconst hd hv k
  case bipush j =>
    obtain ⟨hn, hv⟩ : n = 2 ∧ _ = v := by simpa [xlk] using hk
    subst hn
    simp only [x1] at h
    cases h
    exact Gx_bipush hd hv k
  case sipush j =>
    obtain ⟨hn, hv⟩ : n = 3 ∧ _ = v := by simpa [xlk] using hk
    subst hn
    simp only [x1] at h
    cases h
    exact Gx_sipush hd hv k
  case lconst j =>
    simp only [xlk, Bool.and_eq_true, beq_iff_eq, decide_eq_true_eq] at hk
    obtain ⟨hn, hv⟩ := hk
    subst hn
    simp only [x1] at h
    cases h
    exact Gx_lconst hd hv k
  case iinc j q =>
    obtain ⟨hn, hv⟩ : n = 3 ∧ _ = v := by simpa [xlk] using hk
    subst hn
    simp only [x1, xinc] at h
    split at h
    · rename_i hx
      split at h
      · rename_i hf
        cases h
        exact Gx_iinc hd hv hx hf k
      · cases h
    · cases h
  case iadd =>
    have hn : n = 1 := by simpa [xlk] using hk
    subst hn
    simp only [x1, xii] at h
    split at h
    · cases h
      exact Gx_iadd hd k
    · cases h
  case isub =>
    have hn : n = 1 := by simpa [xlk] using hk
    subst hn
    simp only [x1, xii] at h
    split at h
    · cases h
      exact Gx_isub hd k
    · cases h
  case imul =>
    have hn : n = 1 := by simpa [xlk] using hk
    subst hn
    simp only [x1, xii] at h
    split at h
    · cases h
      exact Gx_imul hd k
    · cases h
  case iand =>
    have hn : n = 1 := by simpa [xlk] using hk
    subst hn
    simp only [x1, xii] at h
    split at h
    · cases h
      exact Gx_iand hd k
    · cases h
  case ior =>
    have hn : n = 1 := by simpa [xlk] using hk
    subst hn
    simp only [x1, xii] at h
    split at h
    · cases h
      exact Gx_ior hd k
    · cases h
  case ixor =>
    have hn : n = 1 := by simpa [xlk] using hk
    subst hn
    simp only [x1, xii] at h
    split at h
    · cases h
      exact Gx_ixor hd k
    · cases h
  case ishl =>
    have hn : n = 1 := by simpa [xlk] using hk
    subst hn
    simp only [x1, xii] at h
    split at h
    · cases h
      exact Gx_ishl hd k
    · cases h
  case ishr =>
    have hn : n = 1 := by simpa [xlk] using hk
    subst hn
    simp only [x1, xii] at h
    split at h
    · cases h
      exact Gx_ishr hd k
    · cases h
  case iushr =>
    have hn : n = 1 := by simpa [xlk] using hk
    subst hn
    simp only [x1, xii] at h
    split at h
    · cases h
      exact Gx_iushr hd k
    · cases h
  case idiv =>
    have hn : n = 1 := by simpa [xlk] using hk
    subst hn
    simp only [x1, xii] at h
    split at h
    · cases h
      exact Gx_idiv hd hP.1 k
    · cases h
  case irem =>
    have hn : n = 1 := by simpa [xlk] using hk
    subst hn
    simp only [x1, xii] at h
    split at h
    · cases h
      exact Gx_irem hd hP.1 k
    · cases h
  case ineg =>
    have hn : n = 1 := by simpa [xlk] using hk
    subst hn
    simp only [x1, xi1] at h
    split at h
    · cases h
      exact Gx_ineg hd k
    · cases h
  case i2b =>
    have hn : n = 1 := by simpa [xlk] using hk
    subst hn
    simp only [x1, xi1] at h
    split at h
    · cases h
      exact Gx_i2b hd k
    · cases h
  case i2c =>
    have hn : n = 1 := by simpa [xlk] using hk
    subst hn
    simp only [x1, xi1] at h
    split at h
    · cases h
      exact Gx_i2c hd k
    · cases h
  case ladd =>
    have hn : n = 1 := by simpa [xlk] using hk
    subst hn
    simp only [x1, xjj] at h
    split at h
    · cases h
      exact Gx_ladd hd k
    · cases h
  case lsub =>
    have hn : n = 1 := by simpa [xlk] using hk
    subst hn
    simp only [x1, xjj] at h
    split at h
    · cases h
      exact Gx_lsub hd k
    · cases h
  case lmul =>
    have hn : n = 1 := by simpa [xlk] using hk
    subst hn
    simp only [x1, xjj] at h
    split at h
    · cases h
      exact Gx_lmul hd k
    · cases h
  case ldiv =>
    have hn : n = 1 := by simpa [xlk] using hk
    subst hn
    simp only [x1, xjj] at h
    split at h
    · cases h
      exact Gx_ldiv hd hP.1 k
    · cases h
  case lrem =>
    have hn : n = 1 := by simpa [xlk] using hk
    subst hn
    simp only [x1, xjj] at h
    split at h
    · cases h
      exact Gx_lrem hd hP.1 k
    · cases h
  case lcmp =>
    have hn : n = 1 := by simpa [xlk] using hk
    subst hn
    simp only [x1] at h
    split at h
    · cases h
      exact Gx_lcmp hd k
    · cases h
  case i2l =>
    have hn : n = 1 := by simpa [xlk] using hk
    subst hn
    simp only [x1] at h
    split at h
    · cases h
      exact Gx_i2l hd k
    · cases h
  case dup =>
    have hn : n = 1 := by simpa [xlk] using hk
    subst hn
    simp only [x1, xdup] at h
    split at h
    · cases h
      exact Gx_dup rfl hd k
    · cases h
      exact Gx_dup rfl hd k
    · cases h
  case dup2 =>
    have hn : n = 1 := by simpa [xlk] using hk
    subst hn
    simp only [x1, xdup2] at h
    split at h
    · cases h
      exact Gx_dup2 rfl rfl hd k
    · cases h
  case pop =>
    have hn : n = 1 := by simpa [xlk] using hk
    subst hn
    simp only [x1, xpop] at h
    split at h
    · cases h
      exact Gx_pop rfl hd k
    · cases h
  case getfield j =>
    simp only [xlk, Bool.and_eq_true, Bool.or_eq_true, beq_iff_eq, bne_iff_ne, decide_eq_true_eq] at hk
    obtain ⟨⟨⟨hn, hl⟩, h1⟩, h2⟩ := hk
    subst hn
    simp only [x1, xgetf] at h
    split at h
    · rename_i p0 r
      obtain ⟨p, hp0⟩ : ∃ p : Nat, p = p0 := ⟨p0, rfl⟩
      subst hp0
      unfold xgetf1 at h
      split at h
      · rename_i ha
        subst ha
        split at h
        · rename_i hb
          subst hb
          cases h
          obtain ⟨j2, rfl⟩ : ∃ j2, p = 110 + j2 := ⟨p - 110, by have := hP.1; omega⟩
          have e1 : 110 + j2 + 20 = 130 + j2 := by omega
          rw [e1] at k
          exact Gx_value hd hl (by have := hP.2.1; omega) k
        · rename_i hb
          have hb1 : b = 1 := by omega
          subst hb1
          cases h
          obtain ⟨j2, rfl⟩ : ∃ j2, p = 110 + j2 := ⟨p - 110, by have := hP.1; omega⟩
          exact Gx_coder hd hl (by have := hP.2.1; omega) k
      · rename_i ha
        have hab : a < 5 ∧ b < xnf a := by
          rcases h1 with h1 | h1
          · exact absurd h1 ha
          · exact h1
        split at h
        · rename_i o ho
          cases h
          exact Gx_getR hd hl hab.1 hab.2 hP.1 ho k
        · rename_i ho
          cases h
          exact Gx_getI hd hl hab.1 hab.2 hP.1 ho k
    · cases h
  case putfield j =>
    simp only [xlk, Bool.and_eq_true, Bool.or_eq_true, beq_iff_eq, bne_iff_ne, decide_eq_true_eq] at hk
    obtain ⟨⟨hn, hl⟩, h1⟩ := hk
    subst hn
    simp only [x1, xputf] at h
    split at h
    · rename_i x p r
      split at h
      · cases h
      · rename_i ho
        split at h
        · rename_i hb
          cases h
          exact Gx_put hd hl h1.1 h1.2 hP.1 ho (fun _ => hP.2.1) k
        · rename_i hb
          cases h
          exact Gx_put hd hl h1.1 h1.2 hP.1 ho (fun z => absurd z hb) k
    · cases h
  case getstatic j =>
    simp only [xlk, Bool.and_eq_true, Bool.or_eq_true, beq_iff_eq, bne_iff_ne, decide_eq_true_eq] at hk
    obtain ⟨hn, h1⟩ := hk
    subst hn
    simp only [x1] at h
    cases h
    rcases h1 with h1 | h1
    · exact Gx_gets hd h1.1 h1.2 k
    · exact Gx_getsN hd h1 k
  case iaload =>
    have hn : n = 1 := by simpa [xlk] using hk
    subst hn
    simp only [x1, xaldf] at h
    split at h
    · rename_i i p r
      split at h
      · cases h
        exact Gx_iald hd hP.1 hP.2.1 k
      · split at h
        · cases h
          obtain ⟨rfl, h2, -⟩ := hP
          exact Gx_holds hd h2 k
        · cases h
          obtain ⟨rfl, h2, -⟩ := hP
          exact Gx_lists hd h2 k
    · cases h
  case iastore =>
    have hn : n = 1 := by simpa [xlk] using hk
    subst hn
    simp only [x1, xastf] at h
    split at h
    · cases h
      exact Gx_iast hd hP.1 hP.2.1 k
    · cases h
  case baload =>
    have hn : n = 1 := by simpa [xlk] using hk
    subst hn
    simp only [x1, xbldf] at h
    split at h
    · rename_i i p0 r
      obtain ⟨p, hp0⟩ : ∃ p : Nat, p = p0 := ⟨p0, rfl⟩
      subst hp0
      unfold xbldf1 at h
      cases h
      obtain ⟨h1, h2, h3, -⟩ := hP
      obtain ⟨j2, rfl⟩ : ∃ j2, p = 130 + j2 := ⟨p - 130, by omega⟩
      rw [show 130 + j2 - 130 = j2 by omega] at h3 k
      exact Gx_bald hd (by omega) h3 k
    · cases h
  case arraylength =>
    have hn : n = 1 := by simpa [xlk] using hk
    subst hn
    simp only [x1, xlenf] at h
    split at h
    · rename_i p0 r
      obtain ⟨p, hp0⟩ : ∃ p : Nat, p = p0 := ⟨p0, rfl⟩
      subst hp0
      unfold xlenf1 at h
      split at h
      · cases h
        exact Gx_alen hd hP.1 k
      · cases h
        obtain ⟨h1, h2, -⟩ := hP
        obtain ⟨j2, rfl⟩ : ∃ j2, p = 130 + j2 := ⟨p - 130, by omega⟩
        rw [show 130 + j2 - 130 = j2 by omega] at k
        exact Gx_blen hd (by omega) k
    · cases h
  case ldc j =>
    simp only [xlk, Bool.and_eq_true, beq_iff_eq] at hk
    obtain ⟨hn, h1⟩ := hk
    subst hn
    simp only [x1] at h
    split at h
    · rename_i ha
      rw [if_pos ha] at h1
      cases h
      exact Gx_ldc hd (of_decide_eq_true h1) k
    · rename_i ha
      rw [if_neg ha] at h1
      cases h
      split at h1
      · rename_i q hq
        simp only [Bool.and_eq_true, beq_iff_eq] at h1
        obtain ⟨q1, q2, q3⟩ := q
        obtain ⟨e1, e2⟩ := h1
        simp only at e1 e2
        subst e1; subst e2
        exact Gx_ldcS hd hq k
      · cases h1
  case ldc_w j =>
    simp only [xlk, Bool.and_eq_true, Bool.or_eq_true, beq_iff_eq, bne_iff_ne, decide_eq_true_eq] at hk
    obtain ⟨hn, h1⟩ := hk
    subst hn
    simp only [x1] at h
    cases h
    exact Gx_ldcw hd h1 k
  case ldc2_w j =>
    simp only [xlk, Bool.and_eq_true, Bool.or_eq_true, beq_iff_eq, decide_eq_true_eq] at hk
    obtain ⟨hn, h1⟩ := hk
    subst hn
    simp only [x1] at h
    cases h
    exact Gx_ldc2 hd h1 k
  all_goals (simp only [x1] at h; cases h)
theorem Gx_run {es : List xI} {P : List Prop} {M' : xM} {L' : List (Option Value)} {st' : List Value} {pc' : Nat} (hc : xcode (xmb m) (xmo m) pc es = true) (h : xs es M L st = some (P, M', L', st')) (hP : xall P) (hpc : pc + xlen es = pc') (k : Gx l E m R pc' M' L' st') : Gx l E m R pc M L st := by
  induction es generalizing pc M L st P with
  | nil =>
    cases h
    subst hpc
    exact k
  | cons e es ih =>
    obtain ⟨i, n, a, b, v⟩ := e
    simp only [xcode, Bool.and_eq_true, decide_eq_true_eq] at hc
    obtain ⟨⟨hd, hk⟩, hc2⟩ := hc
    unfold xs at h
    split at h
    · rename_i P1 M1 L1 st1 h1
      split at h
      · rename_i P2 r h2
        obtain ⟨M2, L2, st2⟩ := r
        cases h
        obtain ⟨hP1, hP2⟩ := xall_app hP
        refine Gx_1 hd hk h1 hP1 (ih hc2 h2 hP2 ?_)
        rw [← hpc]
        simp only [xlen, List.map_cons, List.sum_cons]
        omega
      · cases h
    · cases h
end XX
