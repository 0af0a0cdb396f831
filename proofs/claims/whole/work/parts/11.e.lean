/-! what a text says, by a stack -/
def wk (c l r : Int32) : Int32 := if c = 37 then (if r = 0 then 0 else rmI l r) else if c = 38 then (if l = 0 then 0 else if r = 0 then 0 else 1) else if c = 42 then l * r else if c = 43 then l + r else if c = 45 then l - r else if c = 47 then (if r = 0 then 0 else l / r) else if c = 60 then (if r ≤ l then 0 else 1) else if c = 61 then (if l = r then 1 else 0) else if c = 62 then (if l ≤ r then 0 else 1) else if c = 124 then (if l = 0 then (if r = 0 then 0 else 1) else 1) else 0
def ev1 (a b c d v : Int32) (s : List Int32) : List Int32 := if v = -33 then (if s.headD 0 = 0 then 1 else 0) :: s.tail else if v = -4 then d :: s else if v = -3 then c :: s else if v = -2 then b :: s else if v = -1 then a :: s else if v < 0 then wk (-v) (s.tail.headD 0) (s.headD 0) :: s.tail.tail else v :: s
def evS (a b c d : Int32) (code : List Int32) : List Int32 → List Int32 := code.foldl (fun s v => ev1 a b c d v s)
def ev (a b c d : Int32) (code : List Int32) : Int32 := (evS a b c d code []).headD 0
theorem ev1_len (a b c d v : Int32) (s : List Int32) : (ev1 a b c d v s).length ≤ s.length + 1 := by
  unfold ev1
  repeat' split
  all_goals simp
  all_goals omega
theorem R_tk {M : Mm} {a cap : Nat} {s : List Int32} (h : Rw M a cap s.reverse) : ∃ M', fX3_takeLast M a = some (s.headD 0, M') ∧ Rw M' a cap s.tail.reverse ∧ Of (fun k => k = a ∨ k = a + 1) M M' := by
  cases s with
  | nil => exact ⟨M, R_takeLast0 h, h, Of.rf⟩
  | cons v s =>
    rw [List.reverse_cons] at h
    exact R_takeLast h
theorem R_ad {M : Mm} {a cap : Nat} {s : List Int32} (h : Rw M a cap s.reverse) (hl : s.length < cap) (v : Int32) : ∃ M', fX3_add M a v = some (1, M') ∧ Rw M' a cap (v :: s).reverse ∧ Of (fun k => k = a ∨ k = a + 1) M M' := by
  rw [List.reverse_cons]
  exact R_add h v (by simpa using hl)
theorem C_truth (M : Mm) (x : Int32) : fX8_truth M x = some (if x = 0 then 0 else 1) := by
  unfold fX8_truth
  by_cases h : x = 0
  · rw [if_pos h, if_pos h]
  · rw [if_neg h, if_neg h]
theorem C_worked {M : Mm} {q cap : Nat} {s : List Int32} (h0 : M[q]? = some (.inr (8, [.ref (q + 1), .ref (q + 3)]))) (h : Rw M (q + 3) cap s.reverse) (c : Int32) : ∃ M', fX8_workedOut M q c = some (wk c (s.tail.headD 0) (s.headD 0), M') ∧ Rw M' (q + 3) cap s.tail.tail.reverse ∧ Of (fun k => k = q + 3 ∨ k = q + 4) M M' := by
  obtain ⟨M1, a1, b1, c1⟩ := R_tk h
  obtain ⟨M2, a2, b2, c2⟩ := R_tk b1
  have h1 : M1[q]? = some (.inr (8, [.ref (q + 1), .ref (q + 3)])) := by rw [c1.2 _ (by omega)]; exact h0
  have g0 : gQ M 8 q 1 = some (q + 3) := gQ_ok h0 rfl
  have g1 : gQ M1 8 q 1 = some (q + 3) := gQ_ok h1 rfl
  refine ⟨M2, ?_, b2, c1.trans c2⟩
  simp only [fX8_workedOut, gC_ok h0, g0, a1, bd2_s, g1, a2, Option.bind_some, jX8_workedOut_180, jX8_workedOut_166, jX8_workedOut_152, jX8_workedOut_138, jX8_workedOut_137, jX8_workedOut_121, jX8_workedOut_116, C_truth]
  generalize s.headD 0 = r
  generalize s.tail.headD 0 = l
  unfold wk
  by_cases z1 : c = 37
  · rw [if_pos z1, if_pos z1]
    by_cases y : r = 0
    · rw [if_pos y, if_pos y]
    · rw [if_neg y, if_neg y]; unfold mI; rw [if_neg y]; rfl
  rw [if_neg z1, if_neg z1]
  by_cases z2 : c = 38
  · rw [if_pos z2, if_pos z2]
    by_cases y : l = 0
    · rw [if_pos y, if_pos y]; rfl
    · rw [if_neg y, if_neg y]
      by_cases x : r = 0
      · rw [if_pos x, if_pos x]; rfl
      · rw [if_neg x, if_neg x]; rfl
  rw [if_neg z2, if_neg z2]
  by_cases z3 : c = 42
  · rw [if_pos z3, if_pos z3]
  rw [if_neg z3, if_neg z3]
  by_cases z4 : c = 43
  · rw [if_pos z4, if_pos z4]
  rw [if_neg z4, if_neg z4]
  by_cases z5 : c = 45
  · rw [if_pos z5, if_pos z5]
  rw [if_neg z5, if_neg z5]
  by_cases z6 : c = 47
  · rw [if_pos z6, if_pos z6]
    by_cases y : r = 0
    · rw [if_pos y, if_pos y]
    · rw [if_neg y, if_neg y]; unfold dI; rw [if_neg y]; rfl
  rw [if_neg z6, if_neg z6]
  by_cases z7 : c = 60
  · rw [if_pos z7, if_pos z7]
    by_cases y : r ≤ l
    · rw [if_pos y, if_pos y]; rfl
    · rw [if_neg y, if_neg y]; rfl
  rw [if_neg z7, if_neg z7]
  by_cases z8 : c = 61
  · rw [if_pos z8, if_pos z8]
    by_cases y : l = r
    · rw [if_pos y, if_pos y]; rfl
    · rw [if_neg y, if_neg y]; rfl
  rw [if_neg z8, if_neg z8]
  by_cases z9 : c = 62
  · rw [if_pos z9, if_pos z9]
    by_cases y : l ≤ r
    · rw [if_pos y, if_pos y]; rfl
    · rw [if_neg y, if_neg y]; rfl
  rw [if_neg z9, if_neg z9]
  by_cases z10 : c = 124
  · rw [if_pos z10, if_pos z10]
    by_cases y : l = 0
    · rw [if_pos y, if_pos y]
      by_cases x : r = 0
      · rw [if_pos x, if_pos x]; rfl
      · rw [if_neg x, if_neg x]; rfl
    · rw [if_neg y, if_neg y]; rfl
  rw [if_neg z10, if_neg z10]
/-- a text's cells, its stack being s -/
def TxA (M : Mm) (q : Nat) (code s : List Int32) : Prop := M[q]? = some (.inr (8, [.ref (q + 1), .ref (q + 3)])) ∧ Rw M (q + 1) code.length code ∧ Rw M (q + 3) code.length s.reverse
theorem TxA.up {M M' : Mm} {q : Nat} {code s s' : List Int32} (h : TxA M q code s) (o : Of (fun k => k = q + 3 ∨ k = q + 4) M M') (n : Rw M' (q + 3) code.length s'.reverse) : TxA M' q code s' := ⟨by rw [o.2 _ (by omega)]; exact h.1, h.2.1.of o (by omega) (by omega), n⟩
theorem C_val1 {N : Nat} {K : Mm → Nat → Int32 → Int32 → Int32 → Int32 → Int32 → Option (Int32 × Mm)} {M : Mm} {q i : Nat} {code s : List Int32} (h : TxA M q code s) (a b c d : Int32) (hi : i < code.length) (hs : s.length ≤ i) : ∃ M', BX8_value_10 N K M q a b c d (nI i) = K M' q a b c d (nI (i + 1)) ∧ TxA M' q code (ev1 a b c d (code.getD i 0) s) ∧ Of (fun k => k = q + 3 ∨ k = q + 4) M M' := by
  obtain ⟨h0, h1, h2⟩ := id h
  have hc := h1.ll.1
  have g0 : gQ M 8 q 0 = some (q + 1) := gQ_ok h0 rfl
  have g1 : gQ M 8 q 1 = some (q + 3) := gQ_ok h0 rfl
  have ad : ∀ v, ∃ M', fX3_add M (q + 3) v = some (1, M') ∧ TxA M' q code (v :: s) ∧ Of (fun k => k = q + 3 ∨ k = q + 4) M M' := fun v => by
    obtain ⟨M', e1, e2, e3⟩ := R_ad h2 (by omega) v
    exact ⟨M', e1, h.up e3 e2, e3⟩
  unfold BX8_value_10
  simp only [g0, g1, R_size h1, R_at h1, lg_nI (show i < 2 ^ 31 by omega), Option.bind_some, nI_1, jX8_value_183, jX8_value_152, C_truth]
  rw [if_neg (nI_ge hi (by omega))]
  generalize code.getD i 0 = v
  unfold ev1
  by_cases z1 : v = -33
  · rw [if_pos z1, if_pos z1]
    obtain ⟨M1, a1, b1, c1⟩ := R_tk h2
    have t1 : s.tail.length < code.length := by simp; omega
    rw [a1]
    simp only [bd2_s]
    by_cases y : s.headD 0 = 0
    · obtain ⟨M2, a2, b2, c2⟩ := R_ad b1 t1 1
      rw [if_pos y, if_pos y, if_neg (by decide), a2]
      exact ⟨M2, rfl, h.up (c1.trans c2) b2, c1.trans c2⟩
    · obtain ⟨M2, a2, b2, c2⟩ := R_ad b1 t1 0
      rw [if_neg y, if_neg y, if_pos trivial, a2]
      exact ⟨M2, rfl, h.up (c1.trans c2) b2, c1.trans c2⟩
  rw [if_neg z1, if_neg z1]
  by_cases z2 : v = -4
  · rw [if_pos z2, if_pos z2]
    obtain ⟨M', e1, e2, e3⟩ := ad d
    exact ⟨M', by rw [e1]; rfl, e2, e3⟩
  rw [if_neg z2, if_neg z2]
  by_cases z3 : v = -3
  · rw [if_pos z3, if_pos z3]
    obtain ⟨M', e1, e2, e3⟩ := ad c
    exact ⟨M', by rw [e1]; rfl, e2, e3⟩
  rw [if_neg z3, if_neg z3]
  by_cases z4 : v = -2
  · rw [if_pos z4, if_pos z4]
    obtain ⟨M', e1, e2, e3⟩ := ad b
    exact ⟨M', by rw [e1]; rfl, e2, e3⟩
  rw [if_neg z4, if_neg z4]
  by_cases z5 : v = -1
  · rw [if_pos z5, if_pos z5]
    obtain ⟨M', e1, e2, e3⟩ := ad a
    exact ⟨M', by rw [e1]; rfl, e2, e3⟩
  rw [if_neg z5, if_neg z5]
  by_cases z6 : v < 0
  · rw [if_pos z6, if_pos z6]
    obtain ⟨M1, a1, b1, c1⟩ := C_worked h0 h2 (-v)
    obtain ⟨M2, a2, b2, c2⟩ := R_ad b1 (by simp; omega) (wk (-v) (s.tail.headD 0) (s.headD 0))
    rw [a1]
    simp only [bd2_s]
    rw [a2]
    exact ⟨M2, rfl, h.up (c1.trans c2) b2, c1.trans c2⟩
  · rw [if_neg z6, if_neg z6]
    obtain ⟨M', e1, e2, e3⟩ := ad v
    exact ⟨M', by rw [e1]; rfl, e2, e3⟩
theorem C_valL {N : Nat} {q : Nat} {code : List Int32} (a b c d : Int32) : ∀ (k i f : Nat) (M : Mm) (s : List Int32), i + k = code.length → k < f → TxA M q code s → s.length ≤ i → ∃ M' ys, LX8_value_10 N f M q a b c d (nI i) = some ((evS a b c d (code.drop i) s).headD 0, M') ∧ TxA M' q code ys ∧ Of (fun k => k = q + 3 ∨ k = q + 4) M M' := by
  intro k
  induction k with
  | zero =>
    intro i f M s hk hf h hs
    obtain ⟨f, rfl⟩ : ∃ g, f = g + 1 := ⟨f - 1, by omega⟩
    have hc := h.2.1.ll.1
    have g0 : gQ M 8 q 0 = some (q + 1) := gQ_ok h.1 rfl
    have g1 : gQ M 8 q 1 = some (q + 3) := gQ_ok h.1 rfl
    obtain ⟨M1, a1, b1, c1⟩ := R_tk h.2.2
    have e : i = code.length := by omega
    subst e
    refine ⟨M1, s.tail, ?_, h.up c1 b1, c1⟩
    show BX8_value_10 N (LX8_value_10 N f) M q a b c d _ = _
    unfold BX8_value_10
    simp only [g0, g1, R_size h.2.1, Option.bind_some]
    rw [if_pos (nI_le (Nat.le_refl _) (by omega)), a1, List.drop_length]
    rfl
  | succ k ih =>
    intro i f M s hk hf h hs
    obtain ⟨f, rfl⟩ : ∃ g, f = g + 1 := ⟨f - 1, by omega⟩
    have hi : i < code.length := by omega
    obtain ⟨M1, a1, b1, c1⟩ := C_val1 (N := N) (K := LX8_value_10 N f) h a b c d hi hs
    obtain ⟨M2, ys, a2, b2, c2⟩ := ih (i + 1) f M1 _ (by omega) (by omega) b1 (by have := ev1_len a b c d (code.getD i 0) s; omega)
    refine ⟨M2, ys, ?_, b2, c1.trans c2⟩
    show BX8_value_10 N (LX8_value_10 N f) M q a b c d _ = _
    rw [a1, a2]
    rw [List.drop_eq_getElem_cons hi]
    rw [show code.getD i 0 = code[i] from by simp [List.getD_eq_getElem?_getD, hi]]
    rfl
theorem C_value {N : Nat} {M : Mm} {q : Nat} {code : List Int32} (h : TextAt M q code) (hN : 2000 ≤ N) (a b c d : Int32) : ∃ M' ys, fX8_value N M q a b c d = some (ev a b c d code, M') ∧ TxA M' q code ys ∧ Of (fun k => k = q + 3 ∨ k = q + 4) M M' := by
  obtain ⟨-, h0, h1, ys, h2⟩ := h
  have hc := h1.2.1
  have g1 : gQ M 8 q 1 = some (q + 3) := gQ_ok h0 rfl
  obtain ⟨M1, a1, b1, c1⟩ := R_clear h2
  have t1 : TxA M1 q code [] := ⟨by rw [c1.2 _ (by omega)]; exact h0, h1.of c1 (by omega) (by omega), b1⟩
  obtain ⟨M2, ys, a2, b2, c2⟩ := C_valL (N := N) a b c d code.length 0 N M1 [] (by omega) (by omega) t1 (Nat.le_refl _)
  refine ⟨M2, ys, ?_, b2, c1.trans c2⟩
  simp only [fX8_value, gC_ok h0, g1, a1, Option.bind_some]
  exact a2
/-- a text's stack changes: all else stays -/
theorem Dy.val {M M' : Mm} {q : Nat} {code ys : List Int32} (h : TextAt M q code) (g : TxA M' q code ys) (o : Of (fun k => k = q + 3 ∨ k = q + 4) M M') : Dy M M' := by
  obtain ⟨h1, h2, h3, zs, h4⟩ := h
  obtain ⟨-, m1, m2, f1, m3, m4⟩ := h3
  obtain ⟨-, n1, n2, f2, n3, n4⟩ := h4
  refine ⟨fun q' code' ht => ?_, fun q' l ht => ?_⟩
  · obtain ⟨t1, t2, t3, ws, t4⟩ := ht
    have s3 := t3
    obtain ⟨-, -, p2, f3, p3, p4⟩ := t3
    obtain ⟨-, -, r2, f4, r3, r4⟩ := id t4
    by_cases e : q' = q
    · subst e
      have el : code'.length = code.length := by
        rw [m3] at p3
        simp only [Option.some.injEq, Sum.inl.injEq, Prod.mk.injEq] at p3
        exact p3.2.1.symm
      refine ⟨t1, g.1, s3.of o (by omega) (by omega), ys.reverse, ?_⟩
      rw [el]
      exact g.2.2
    · have k : ∀ j, j ≤ 4 → q' + j ≠ q + 3 ∧ q' + j ≠ q + 4 := by
        intro j hj
        have e1 : q' ≠ q + 1 := fun w => by rw [w] at t2; rw [m2] at t2; cases t2
        have e2 : q' ≠ q + 2 := fun w => by rw [w] at t2; rw [m3] at t2; cases t2
        have e3 : q' ≠ q + 3 := fun w => by rw [w] at t2; rw [n2] at t2; cases t2
        have e4 : q' ≠ q + 4 := fun w => by rw [w] at t2; rw [n3] at t2; cases t2
        have e5 : q' + 1 ≠ q := fun w => by rw [w] at p2; rw [h2] at p2; cases p2
        have e6 : q' + 2 ≠ q := fun w => by rw [w] at p3; rw [h2] at p3; cases p3
        have e7 : q' + 3 ≠ q := fun w => by rw [w] at r2; rw [h2] at r2; cases r2
        have e8 : q' + 4 ≠ q := fun w => by rw [w] at r3; rw [h2] at r3; cases r3
        omega
      refine ⟨t1, by rw [o.2 _ (by have := k 0 (by omega); omega)]; exact t2, s3.of o (by have := k 1 (by omega); omega) (by have := k 2 (by omega); omega), ws, t4.of o (by have := k 3 (by omega); omega) (by have := k 4 (by omega); omega)⟩
  · obtain ⟨t1, t2, t3⟩ := ht
    refine ⟨t1, t2, ?_⟩
    have e3 : q' ≠ q + 3 := fun w => by rw [w] at t3; rw [n2] at t3; cases t3
    have e4 : q' ≠ q + 4 := fun w => by rw [w] at t3; rw [n3] at t3; cases t3
    rw [o.2 _ (by omega)]; exact t3
theorem RelC.val {M M' : Mm} {σ : Sg} {q : Nat} {code ys : List Int32} (hR : RelC M σ) (h : TextAt M q code) (g : TxA M' q code ys) (o : Of (fun k => k = q + 3 ∨ k = q + 4) M M') : RelC M' σ ∧ FrC M M' ∧ Sm 0 153 M M' := by
  have hq := h.1
  have s : Sm 0 153 M M' := o.sm (fun k a b => by omega)
  refine ⟨hR.scr (s.sub (by omega) (by omega)) (s.sub (by omega) (by omega)) (Dy.val h g o) (hR.2.2.2.2.2.2.1.mv (s.sub (by omega) (by omega)) (s.sub (by omega) (by omega))) (by rw [o.1]; exact hR.2.2.2.2.2.2.2), ⟨by rw [o.1]; exact Nat.le_refl _, s.sub (by omega) (by omega)⟩, s⟩
