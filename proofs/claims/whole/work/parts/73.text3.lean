/-! the letters: what the reference reads -/
section T3
variable {M : xM} {s : Nat → Nat} {nl : Nat} {A : Nat → Nat} {rf : Nat → Bool}
/-- the reference's letters -/
def TR (M : xM) (s : Nat → Nat) (nl : Nat) : Prop := nl ≤ 96 ∧ M 50 7 = nI nl ∧ ∀ j, j < nl → s j ≤ 255 ∧ M 55 j = nI (s j)
theorem TR_same {M1 : xM} (h : TR M s nl) (e1 : M1 50 7 = M 50 7) (e2 : M1 55 = M 55) : TR M1 s nl := by
  unfold TR; rw [e1, e2]; exact h
theorem TR_d {M1 : xM} (h : TR M s nl) (d : dOff M M1) : TR M1 s nl := TR_same h (d.2 7 (by omega) (by omega) (by omega) (by omega) (by omega)) (d.1 55 (by omega) (by omega) (by omega) (by omega) (by omega) (by omega))
/-- only the reference's place and wrongness change; and what is strange -/
def oOff (M M' : xM) : Prop := (∀ p, p ≠ 50 → M' p = M p) ∧ ∀ k, k ≠ 8 → k ≠ 9 → M' 50 k = M 50 k
def nOff (M M' : xM) : Prop := (∀ p, p ≠ 50 → M' p = M p) ∧ ∀ k, k ≠ 8 → k ≠ 9 → k ≠ 10 → M' 50 k = M 50 k
theorem oOff_tr {M1 M2 : xM} (h : oOff M M1) (h2 : oOff M1 M2) : oOff M M2 := ⟨fun p a => (h2.1 p a).trans (h.1 p a), fun k a b => (h2.2 k a b).trans (h.2 k a b)⟩
theorem nOff_tr {M1 M2 : xM} (h : nOff M M1) (h2 : nOff M1 M2) : nOff M M2 := ⟨fun p a => (h2.1 p a).trans (h.1 p a), fun k a b c => (h2.2 k a b c).trans (h.2 k a b c)⟩
theorem nOff_o {M1 : xM} (h : oOff M M1) : nOff M M1 := ⟨h.1, fun k a b _ => h.2 k a b⟩
theorem dOff_n {M1 : xM} (h : nOff M M1) : dOff M M1 := ⟨fun p a _ _ _ _ _ => h.1 p a, fun k a b c _ _ => h.2 k a b c⟩
theorem oOff_up {k : Nat} {x : Int32} (h : k = 8 ∨ k = 9) : oOff M (xup M 50 k x) := ⟨fun p a => xup_n a, fun j a b => by rw [xup_at, upd, if_neg (by omega)]⟩
theorem t_here {sp : Nat} {Q : Int32 → xM → Prop} (hT : TR M s nl) (h8 : M 50 8 = nI sp) (hsp : sp < 1000) (hq : Q (if sp < nl then nI (s sp) else -1) M) : wX4_here M Q := by
  obtain ⟨h1, h2, h3⟩ := hT
  unfold wX4_here wX4_here_24
  rw [h2, h8, z_le (by omega) (by omega), z_cl (by omega), z_in (by omega) (by omega)]
  refine ⟨fun z => ?_, fun z => ⟨by omega, ?_⟩⟩
  · rw [if_neg (by omega)] at hq; exact hq
  · rw [if_pos (by omega)] at hq
    rw [(h3 sp (by omega)).2]; exact hq
theorem nI_p0 (x : Nat) : nI x + 0 = nI x := z_add x 0
theorem t_one22 {lo hi r : Int32} {sp : Nat} {Q : Int32 → xM → Prop} (h8 : M 50 8 = nI sp) (hq : ∀ M1, M1 50 8 = nI sp → M1 50 9 = 1 → oOff M M1 → Q 0 M1) : wX4_one_22 lo hi Q M r := by
  have a9 : xup M 50 9 1 50 9 = 1 := by rw [xup_at, upd, if_pos rfl]
  have a8 : xup M 50 9 1 50 8 = nI sp := by rw [xup_at, upd, if_neg (by omega)]; exact h8
  have b9 : xup (xup M 50 9 1) 50 8 (nI sp) 50 9 = 1 := by rw [xup_at, upd, if_neg (by omega)]; exact a9
  have b8 : xup (xup M 50 9 1) 50 8 (nI sp) 50 8 = nI sp := by rw [xup_at, upd, if_pos rfl]
  unfold wX4_one_22 wX4_one_27 wX4_one_47 wX4_one_65
  rw [a9, a8, nI_p0, b9]
  exact ⟨Or.inr rfl, fun z => absurd z (by decide), fun _ => ⟨fun z => absurd z (by decide), fun _ => hq _ b8 b9 (oOff_tr (oOff_up (by omega)) (oOff_up (by omega)))⟩⟩
/-- the reference has read i signs behind a statement's first letter -/
def RS (M : xM) (s : Nat → Nat) (nl st i : Nat) : Prop := M 50 8 = nI (st + 1 + fS s nl st i) ∧ M 50 9 = bI (decide (fS s nl st i < i))
theorem RS_same {M1 : xM} {st i : Nat} (h : RS M s nl st i) (e8 : M1 50 8 = M 50 8) (e9 : M1 50 9 = M 50 9) : RS M1 s nl st i := ⟨e8.trans h.1, e9.trans h.2⟩
theorem fS_s (s : Nat → Nat) (nl st i : Nat) : fS s nl st (i + 1) = if fS s nl st i < i then fS s nl st i else if badS s nl st i = true then i else i + 1 := rfl
theorem t_inM1 {lo hi : Nat} {Q : Int32 → xM → Prop} (hl : lo < 1000) (hh : hi < 1000) (h0 : Q 0 M) : wX4_in M (-1) (nI lo) (nI hi) Q :=
  t_inX hl hh (fun z => by
    have := (vp_in_iff.mp z).1
    exact absurd this (by decide)) h0
theorem t_sym {st i a lo hi : Nat} {Q : Int32 → xM → Prop} (hT : TR M s nl) (hst : st < 500) (hi9 : i < 10) (ha : shAt (s st) i = a) (hl : lo < 1000) (hh : hi < 1000) (hf : ∀ x, fit a x = decide (lo ≤ x ∧ x ≤ hi)) (hR : RS M s nl st i) (hq : ∀ M1 v, RS M1 s nl st (i + 1) → oOff M M1 → (fS s nl st (i + 1) = i + 1 → v = nI (s (st + 1 + i) - lo)) → Q v M1) : wX4_one M (nI lo) (nI hi) Q := by
  obtain ⟨h8, h9⟩ := hR
  have hfl := fS_le s nl st i
  have fs := fS_s s nl st i
  have h1 := hT.1
  unfold wX4_one
  refine t_here hT h8 (by omega) ?_
  rw [h9]
  refine ⟨fun z => ?_, fun z => ?_⟩
  · have w : fS s nl st i < i := of_decide_eq_true (bI_ne z)
    rw [if_pos w] at fs
    refine t_one22 h8 (fun M1 a8 a9 o1 => hq M1 0 ⟨by rw [fs]; exact a8, ?_⟩ o1 (fun q => absurd q (by omega)))
    rw [decide_eq_true (show fS s nl st (i + 1) < i + 1 by omega)]; exact a9
  · have w : ¬ fS s nl st i < i := of_decide_eq_false ((bI_0 _).mp z)
    have e : fS s nl st i = i := by omega
    rw [if_neg w] at fs
    rw [e] at h8 ⊢
    have bad : badS s nl st i = true → ∀ r : Int32, wX4_one_22 (nI lo) (nI hi) Q M r := fun hb r => by
      rw [if_pos hb] at fs
      refine t_one22 h8 (fun M1 a8 a9 o1 => hq M1 0 ⟨by rw [fs]; exact a8, ?_⟩ o1 (fun q => absurd q (by omega)))
      rw [decide_eq_true (show fS s nl st (i + 1) < i + 1 by omega)]; exact a9
    by_cases g : st + 1 + i < nl
    · rw [if_pos g]
      have hx := (hT.2.2 _ g).1
      refine t_inR (by omega) hl hh (fun q => ⟨fun _ => ?_, fun z => absurd z (by decide)⟩) (fun q => ⟨fun z => absurd rfl z, fun _ => bad ?_ _⟩)
      · have hb : badS s nl st i = false := by
          unfold badS
          rw [ha, hf, decide_eq_true g, decide_eq_true q]; rfl
        rw [if_neg (by rw [hb]; decide)] at fs
        have a9 : xup M 50 9 0 50 9 = 0 := by rw [xup_at, upd, if_pos rfl]
        have a8 : xup M 50 9 0 50 8 = nI (st + 1 + i) := by rw [xup_at, upd, if_neg (by omega)]; exact h8
        have b9 : xup (xup M 50 9 0) 50 8 (nI (st + 1 + i + 1)) 50 9 = 0 := by rw [xup_at, upd, if_neg (by omega)]; exact a9
        have b8 : xup (xup M 50 9 0) 50 8 (nI (st + 1 + i + 1)) 50 8 = nI (st + 1 + i + 1) := by rw [xup_at, upd, if_pos rfl]
        unfold wX4_one_27 wX4_one_47 wX4_one_65
        rw [a9, a8, nI_1, b9]
        refine ⟨Or.inl rfl, fun _ => ⟨fun _ => hq _ _ ⟨by rw [fs]; exact b8, ?_⟩ (oOff_tr (oOff_up (by omega)) (oOff_up (by omega))) (fun _ => z_sub q.1), fun z => absurd rfl z⟩, fun z => absurd rfl z⟩
        rw [decide_eq_false (show ¬ fS s nl st (i + 1) < i + 1 by omega)]; exact b9
      · unfold badS
        rw [ha, hf, decide_eq_false q, Bool.and_false]; rfl
    · rw [if_neg g]
      refine t_inM1 hl hh ⟨fun z => absurd rfl z, fun _ => bad ?_ _⟩
      unfold badS
      rw [decide_eq_false g]; rfl
theorem t_digit {st i : Nat} {Q : Int32 → xM → Prop} (hT : TR M s nl) (hst : st < 500) (hi9 : i < 10) (ha : shAt (s st) i = 57) (hR : RS M s nl st i) (hq : ∀ M1 v, RS M1 s nl st (i + 1) → oOff M M1 → (fS s nl st (i + 1) = i + 1 → v = nI (dg s (st + 1 + i))) → Q v M1) : wX4_digit M Q := by
  unfold wX4_digit
  exact t_sym (lo := 48) (hi := 57) hT hst hi9 ha (by omega) (by omega) (fun x => by unfold fit; rw [if_pos rfl]) hR hq
theorem t_name {st i : Nat} {Q : Int32 → xM → Prop} (hT : TR M s nl) (hst : st < 500) (hi9 : i < 10) (ha : shAt (s st) i = 97) (hR : RS M s nl st i) (hq : ∀ M1 v, RS M1 s nl st (i + 1) → oOff M M1 → (fS s nl st (i + 1) = i + 1 → v = nI (s (st + 1 + i) - 97)) → Q v M1) : wX4_one M 97 122 Q :=
  t_sym (lo := 97) (hi := 122) hT hst hi9 ha (by omega) (by omega) (fun x => by unfold fit; rw [if_neg (by decide), if_pos rfl]) hR hq
theorem fS_prev {st i : Nat} (h : fS s nl st (i + 1) = i + 1) : fS s nl st i = i := by
  have h1 := fS_le s nl st i
  have fs := fS_s s nl st i
  by_cases w : fS s nl st i < i
  · rw [if_pos w] at fs; omega
  · omega
theorem t_twoDigits {st i : Nat} {Q : Int32 → xM → Prop} (hT : TR M s nl) (hst : st < 500) (hi9 : i < 9) (ha : shAt (s st) i = 57) (ha2 : shAt (s st) (i + 1) = 57) (hR : RS M s nl st i) (hq : ∀ M1 v, RS M1 s nl st (i + 2) → oOff M M1 → (fS s nl st (i + 2) = i + 2 → v = nI (10 * dg s (st + 1 + i) + dg s (st + 1 + i + 1))) → Q v M1) : wX4_twoDigits M Q := by
  unfold wX4_twoDigits
  refine t_digit hT hst (by omega) ha hR (fun M1 v1 r1 o1 e1 => ?_)
  refine t_digit (TR_d hT (dOff_n (nOff_o o1))) hst (by omega) ha2 r1 (fun M2 v2 r2 o2 e2 => hq M2 _ r2 (oOff_tr o1 o2) (fun z => ?_))
  rw [e2 z, e1 (fS_prev z), show (10 : Int32) = nI 10 from rfl, z_mul, z_add]
  rfl
theorem kd_s : ∀ k, k < 6 → xsb 8 k = nI (kdc k) ∧ kdc k < 1000 := by decide +kernel
theorem t_kind {st i : Nat} {Q : Int32 → xM → Prop} (hT : TR M s nl) (hst : st < 500) (hi9 : i < 10) (ha : shAt (s st) i = 107) (hR : RS M s nl st i) (hn : fS s nl st i = i) (hq : ∀ M1 v, RS M1 s nl st (i + 1) → oOff M M1 → (fS s nl st (i + 1) = i + 1 → v = nI (kdOf (s (st + 1 + i)))) → Q v M1) : wX4_kindLetter M Q := by
  obtain ⟨h8, h9⟩ := hR
  have fs := fS_s s nl st i
  have h1 := hT.1
  rw [if_neg (by omega)] at fs
  rw [hn] at h8 h9
  rw [decide_eq_false (Nat.lt_irrefl i)] at h9
  have eb : badS s nl st i = !(decide (st + 1 + i < nl) && decide (kdOf (s (st + 1 + i)) < 6)) := by
    unfold badS fit
    rw [ha, if_neg (by decide), if_neg (by decide), if_pos rfl]
  have lost : badS s nl st i = true → Q 0 (xup M 50 9 1) := fun hb => by
    rw [if_pos hb] at fs
    refine hq _ _ ⟨?_, ?_⟩ (oOff_up (by omega)) (fun q => absurd q (by omega))
    · rw [fs, xup_at, upd, if_neg (by omega)]; exact h8
    · rw [decide_eq_true (show fS s nl st (i + 1) < i + 1 by omega), xup_at, upd, if_pos rfl]; rfl
  unfold wX4_kindLetter
  refine t_here hT h8 (by omega) ?_
  by_cases g : st + 1 + i < nl
  · rw [if_pos g]
    have hx := (hT.2.2 _ g).1
    rw [decide_eq_true g, Bool.true_and] at eb
    have key := z_loop (P := fun n k => (∀ j, j < k → (fun j => kdc j == s (st + 1 + i)) j = false) → lX4_kindLetter_10 Q n M (nI (s (st + 1 + i))) (nI k)) 6 (fun n hb => ?_) (fun n k hk hn hb => ?_)
    · obtain ⟨n, hn⟩ := key
      exact ⟨n, hn (fun k hk => absurd hk (Nat.not_lt_zero k))⟩
    · unfold lX4_kindLetter_10
      dsimp only
      refine ⟨fun _ => lost ?_, fun z => absurd (show (6 : Int32) ≤ nI 6 by decide) z⟩
      have nk : ¬ kdOf (s (st + 1 + i)) < 6 := ff_none hb
      rw [eb, decide_eq_false nk]; rfl
    · have hs := kd_s k hk
      unfold lX4_kindLetter_10
      dsimp only
      rw [show (6 : Int32) = nI 6 from rfl, z_le (by omega) (by omega), nI_1]
      refine ⟨fun z => absurd z (by omega), fun _ => s_charAt (by omega) (show k < xsl (118 - 110) from hk) ?_⟩
      show (¬ xsb 8 k = _ → _) ∧ (xsb 8 k = _ → _)
      rw [hs.1, z_eq (by omega) (by omega)]
      refine ⟨fun z => hn (lt_snoc hb (by show (kdc k == s (st + 1 + i)) = false; rw [beq_eq_false_iff_ne]; exact z)), fun z => ?_⟩
      have e : kdOf (s (st + 1 + i)) = k := ff_is hb (by show (kdc k == s (st + 1 + i)) = true; rw [beq_iff_eq]; exact z) hk
      rw [e, decide_eq_true hk] at eb
      rw [if_neg (by rw [eb]; decide)] at fs
      rw [h8, nI_1]
      refine hq _ _ ⟨?_, ?_⟩ (oOff_up (by omega)) (fun _ => by rw [e])
      · rw [fs, xup_at, upd, if_pos rfl]; rfl
      · rw [decide_eq_false (show ¬ fS s nl st (i + 1) < i + 1 by omega), xup_at, upd, if_neg (by omega)]; exact h9
  · rw [if_neg g]
    rw [decide_eq_false g] at eb
    refine z_loop (P := fun n k => lX4_kindLetter_10 Q n M (-1) (nI k)) 6 (fun n => ?_) (fun n k hk hn => ?_)
    · unfold lX4_kindLetter_10
      dsimp only
      exact ⟨fun _ => lost eb, fun z => absurd (show (6 : Int32) ≤ nI 6 by decide) z⟩
    · have hs := kd_s k hk
      unfold lX4_kindLetter_10
      dsimp only
      rw [show (6 : Int32) = nI 6 from rfl, z_le (by omega) (by omega), nI_1]
      refine ⟨fun z => absurd z (by omega), fun _ => s_charAt (by omega) (show k < xsl (118 - 110) from hk) ?_⟩
      show (¬ xsb 8 k = _ → _) ∧ (xsb 8 k = _ → _)
      rw [hs.1]
      refine ⟨fun _ => hn, fun z => ?_⟩
      rw [show (-1 : Int32) = -nI 1 from rfl, z_neq (by omega) (by omega) (by omega)] at z; exact z.elim
theorem t_must {is fr : Int32} {w : Bool} {Q : xM → Prop} (h9 : M 50 9 = bI w) (hq : ∀ M1, (∀ p, p ≠ 50 → M1 p = M p) → (∀ k, k ≠ 10 → M1 50 k = M 50 k) → (w = false → M1 50 10 = if is = 0 ∧ M 50 10 = -1 then fr else M 50 10) → Q M1) : wX4_must M is fr Q := by
  unfold wX4_must wX4_must_24
  rw [h9]
  refine ⟨fun z => hq M (fun _ _ => rfl) (fun _ _ => rfl) (fun q => by rw [bI_ne z] at q; cases q), fun z => ⟨fun z2 => hq M (fun _ _ => rfl) (fun _ _ => rfl) (fun _ => by rw [if_neg (fun q => z2 q.1)]), fun z2 => ⟨fun z3 => hq M (fun _ _ => rfl) (fun _ _ => rfl) (fun _ => by rw [if_neg (fun q => z3 q.2)]), fun z3 => hq _ (fun p hp => xup_n hp) (fun k hk => by rw [xup_at, upd, if_neg hk]) (fun _ => by rw [if_pos ⟨z2, z3⟩, xup_at, upd, if_pos rfl])⟩⟩⟩
end T3
