/-! ===== PURE: memory's acts by what the memory holds ===== -/
theorem gC_ok {M : Mm} {a ci : Nat} {fs : List Value} (h : M[a]? = some (.inr (ci, fs))) : gC M ci a = some a := by simp [gC, h]
theorem gI_ok {M : Mm} {a ci k : Nat} {fs : List Value} {x : Int32} (h : M[a]? = some (.inr (ci, fs))) (hk : fs[k]? = some (.int x)) : gI M ci a k = some x := by simp [gI, gF, h, hk]
theorem gQ_ok {M : Mm} {a ci k : Nat} {fs : List Value} {x : Nat} (h : M[a]? = some (.inr (ci, fs))) (hk : fs[k]? = some (.ref x)) : gQ M ci a k = some x := by simp [gQ, gF, h, hk]
theorem pF_ok {M : Mm} {a ci k : Nat} {fs : List Value} {v : Value} (h : M[a]? = some (.inr (ci, fs))) (hk : k < fs.length) : pF M ci a k v = some (M.set a (.inr (ci, fs.set k v))) := by simp [pF, h, hk]
theorem aL_ok {M : Mm} {a t n : Nat} {x} (h : M[a]? = some (.inl (t, n, x))) (ht : t < 5) : aL M a = some (nI n) := by simp [aL, h, ht, nI]
theorem aI_ok {M : Mm} {a t n j : Nat} {f : Nat → Int32} (h : M[a]? = some (.inl (t, n, .inl f))) (hj : j < n) (hn : n < 2 ^ 31) : aI M t a (nI j) = some (f j) := by
  simp [aI, h, nI_clamp (show j < 2 ^ 31 by omega), nI_pos (show j < 2 ^ 31 by omega), hj]
theorem sI_ok {M : Mm} {a t n j : Nat} {f : Nat → Int32} {x : Int32} (h : M[a]? = some (.inl (t, n, .inl f))) (hj : j < n) (hn : n < 2 ^ 31) : sI M t a (nI j) x = some (M.set a (.inl (t, n, .inl (upd f j x)))) := by
  simp [sI, h, nI_clamp (show j < 2 ^ 31 by omega), nI_pos (show j < 2 ^ 31 by omega), hj]
theorem cpI_ok {M : Mm} {a b n0 n1 sp dp n : Nat} {f g : Nat → Int32} (ha : M[a]? = some (.inl (0, n0, .inl f))) (hb : M[b]? = some (.inl (0, n1, .inl g))) (h0 : n0 < 2 ^ 31) (h1 : n1 < 2 ^ 31) (hs : sp + n ≤ n0) (hd : dp + n ≤ n1) : cpI M a (nI sp) b (nI dp) (nI n) = some (M.set b (.inl (0, n1, .inl (va_cpy f g sp dp n)))) := by
  simp [cpI, ha, hb, nI_clamp (show sp < 2 ^ 31 by omega), nI_clamp (show dp < 2 ^ 31 by omega), nI_clamp (show n < 2 ^ 31 by omega), nI_pos (show sp < 2 ^ 31 by omega), nI_pos (show dp < 2 ^ 31 by omega), nI_pos (show n < 2 ^ 31 by omega), hs, hd]
/-- M' is M but at the places of S -/
def Of (S : Nat → Prop) (M M' : Mm) : Prop := M'.length = M.length ∧ ∀ k, ¬ S k → M'[k]? = M[k]?
theorem Of.rf {S : Nat → Prop} {M : Mm} : Of S M M := ⟨rfl, fun _ _ => rfl⟩
theorem Of.trans {S : Nat → Prop} {M M1 M2 : Mm} (h : Of S M M1) (g : Of S M1 M2) : Of S M M2 := ⟨g.1.trans h.1, fun k hk => (g.2 k hk).trans (h.2 k hk)⟩
theorem Of.mono {S T : Nat → Prop} {M M1 : Mm} (h : Of S M M1) (g : ∀ k, S k → T k) : Of T M M1 := ⟨h.1, fun k hk => h.2 k (fun q => hk (g k q))⟩
theorem Of.set {S : Nat → Prop} {M : Mm} {a : Nat} {x : va_E} (h : S a) : Of S M (M.set a x) := ⟨by simp, fun k hk => by
  have : a ≠ k := fun e => hk (e ▸ h)
  simp [this]⟩
theorem lt_of_at {M : Mm} {a : Nat} {x : va_E} (h : M[a]? = some x) : a < M.length := (List.getElem?_eq_some_iff.mp h).1
/-! Rows: a Row at a has its array at a + 1 -/
def Rw (M : Mm) (a cap : Nat) (xs : List Int32) : Prop :=
  xs.length ≤ cap ∧ cap ≤ 1000 ∧ M[a]? = some (.inr (3, [.ref (a + 1), .int (nI xs.length)])) ∧ ∃ f : Nat → Int32, M[a + 1]? = some (.inl (0, cap, .inl f)) ∧ ∀ i, i < xs.length → xs[i]? = some (f i)
theorem Rw.of {S : Nat → Prop} {M M' : Mm} {a cap : Nat} {xs : List Int32} (h : Rw M a cap xs) (g : Of S M M') (h0 : ¬ S a) (h1 : ¬ S (a + 1)) : Rw M' a cap xs := by
  obtain ⟨q1, q2, q3, f, q4, q5⟩ := h
  exact ⟨q1, q2, by rw [g.2 a h0]; exact q3, f, by rw [g.2 _ h1]; exact q4, q5⟩
def lg (xs : List Int32) (i : Int32) : Int32 := if i < 0 then 0 else xs.getD i.toNatClampNeg 0
theorem lg_nI {xs : List Int32} {k : Nat} (hk : k < 2 ^ 31) : lg xs (nI k) = xs.getD k 0 := by simp [lg, nI_clamp hk, nI_pos hk]
theorem ix_hi {x : Int32} {n : Nat} (hn : n < 2 ^ 31) (h : nI n ≤ x) : ¬ x < 0 ∧ n ≤ x.toNatClampNeg := by
  have h1 := Int32.le_iff_toInt_le.mp h
  rw [nI_toInt hn] at h1
  refine ⟨fun q => ?_, ?_⟩
  · have := Int32.lt_iff_toInt_lt.mp q
    simp at this
    omega
  · show n ≤ x.toInt.toNat
    omega
section RW
variable {M : Mm} {a cap : Nat} {xs : List Int32}
theorem Rw.gC (h : Rw M a cap xs) : gC M 3 a = some a := gC_ok h.2.2.1
theorem Rw.gI (h : Rw M a cap xs) : gI M 3 a 1 = some (nI xs.length) := gI_ok h.2.2.1 rfl
theorem Rw.gQ (h : Rw M a cap xs) : gQ M 3 a 0 = some (a + 1) := gQ_ok h.2.2.1 rfl
theorem Rw.aL (h : Rw M a cap xs) : aL M (a + 1) = some (nI cap) := by
  obtain ⟨-, -, -, f, q, -⟩ := h
  exact aL_ok q (by decide)
theorem Rw.aI (h : Rw M a cap xs) {j : Nat} (hj : j < xs.length) : aI M 0 (a + 1) (nI j) = some (xs.getD j 0) := by
  obtain ⟨q1, q2, -, f, q, q5⟩ := h
  rw [aI_ok q (by omega) (by omega), List.getD_eq_getElem?_getD, q5 j hj]
  rfl
theorem Rw.ll (h : Rw M a cap xs) : xs.length < 2 ^ 31 ∧ cap < 2 ^ 31 := by
  have := h.1
  have := h.2.1
  omega
theorem R_size (h : Rw M a cap xs) : fX3_size M a = some (nI xs.length) := by
  simp only [fX3_size, h.gC, h.gI, Option.bind_some]
theorem R_room (h : Rw M a cap xs) : fX3_room M a = some (nI (cap - xs.length)) := by
  simp only [fX3_room, h.gC, h.gI, h.gQ, h.aL, Option.bind_some]
  rw [pk_sub h.1]
theorem R_at (h : Rw M a cap xs) (i : Int32) : fX3_at M a i = some (lg xs i) := by
  obtain ⟨l1, l2⟩ := h.ll
  simp only [fX3_at, h.gC, h.gI, h.gQ, h.aL, Option.bind_some]
  rcases pk_ix i l1 with h0 | h0 | ⟨j, hj, rfl⟩
  · simp [h0, lg]
  · obtain ⟨g1, g2⟩ := ix_hi l1 h0
    simp [g1, h0, lg, List.getD_eq_getElem?_getD, List.getElem?_eq_none g2]
  · have g1 : ¬ nI j < 0 := nI_pos (by omega)
    have g2 : ¬ nI xs.length ≤ nI j := nI_ge hj l1
    have g3 : ¬ nI cap ≤ nI j := nI_ge (Nat.lt_of_lt_of_le hj h.1) l2
    simp only [if_neg g1, if_neg g2, if_neg g3, h.aI hj, Option.bind_some, lg_nI (show j < 2 ^ 31 by omega)]
theorem R_has (h : Rw M a cap xs) (i : Int32) : fX3_has M a i = some (if ¬ i < 0 ∧ i.toNatClampNeg < xs.length then 1 else 0) := by
  obtain ⟨l1, l2⟩ := h.ll
  simp only [fX3_has, h.gC, h.gI, h.gQ, h.aL, Option.bind_some]
  rcases pk_ix i l1 with h0 | h0 | ⟨j, hj, rfl⟩
  · simp [h0]
  · obtain ⟨g1, g2⟩ := ix_hi l1 h0
    simp [g1, h0, Nat.not_lt.mpr g2]
  · have g1 : ¬ nI j < 0 := nI_pos (by omega)
    have g2 : ¬ nI xs.length ≤ nI j := nI_ge hj l1
    have g3 : ¬ nI cap ≤ nI j := nI_ge (Nat.lt_of_lt_of_le hj h.1) l2
    rw [nI_clamp (show j < 2 ^ 31 by omega)]
    simp only [if_neg g1, if_neg g2, if_neg g3]
    rw [if_pos ⟨g1, hj⟩]
theorem R_add (h : Rw M a cap xs) (v : Int32) (hl : xs.length < cap) : ∃ M', fX3_add M a v = some (1, M') ∧ Rw M' a cap (xs ++ [v]) ∧ Of (fun k => k = a ∨ k = a + 1) M M' := by
  obtain ⟨l1, l2⟩ := h.ll
  have hh := h
  obtain ⟨q1, q2, q3, f, q4, q5⟩ := h
  have la := lt_of_at q3
  have lb := lt_of_at q4
  have e1 : (M.set (a + 1) (.inl (0, cap, .inl (upd f xs.length v))))[a]? = some (.inr (3, [.ref (a + 1), .int (nI xs.length)])) := by
    rw [List.getElem?_set_ne (by omega)]; exact q3
  refine ⟨(M.set (a + 1) (.inl (0, cap, .inl (upd f xs.length v)))).set a (.inr (3, [.ref (a + 1), .int (nI (xs.length + 1))])), ?_, ⟨?_, q2, ?_, upd f xs.length v, ?_, ?_⟩, ?_⟩
  · simp only [fX3_add, hh.gC, hh.gI, hh.gQ, hh.aL, Option.bind_some, if_neg (nI_pos l1), if_pos (nI_lt hl l2), sI_ok q4 hl l2, gI_ok e1 (k := 1) rfl, pF_ok e1 (k := 1) (Nat.le_of_ble_eq_true rfl)]
    rw [← nI_succ]
    rfl
  · simp; omega
  · simp [la]
  · rw [List.getElem?_set_ne (by omega)]
    simp [lb]
  · intro i hi
    simp only [List.length_append, List.length_singleton] at hi
    rcases Nat.lt_or_ge i xs.length with g | g
    · rw [List.getElem?_append_left g, q5 i g, pk_un (by omega)]
    · have e : i = xs.length := by omega
      subst e
      simp [pk_us]
  · exact (Of.set (Or.inr rfl)).trans (Of.set (Or.inl rfl))
theorem R_full (h : Rw M a cap xs) (v : Int32) (hl : xs.length = cap) : fX3_add M a v = some (0, M) := by
  obtain ⟨l1, l2⟩ := h.ll
  simp only [fX3_add, h.gC, h.gI, h.gQ, h.aL, Option.bind_some, if_neg (nI_pos l1)]
  rw [if_neg (by rw [hl]; exact Int32.lt_irrefl)]
theorem R_clear (h : Rw M a cap xs) : ∃ M', fX3_clear M a = some M' ∧ Rw M' a cap [] ∧ Of (fun k => k = a ∨ k = a + 1) M M' := by
  obtain ⟨q1, q2, q3, f, q4, q5⟩ := h
  have la := lt_of_at q3
  refine ⟨M.set a (.inr (3, [.ref (a + 1), .int 0])), ?_, ⟨by simp, q2, ?_, f, ?_, by simp⟩, Of.set (Or.inl rfl)⟩
  · simp only [fX3_clear, gC_ok q3, pF_ok q3 (k := 1) (Nat.le_of_ble_eq_true rfl), Option.bind_some]
    rfl
  · simp [la, nI_0]
  · rw [List.getElem?_set_ne (by omega)]; exact q4
/-- one number is written -/
theorem Rw.wr (h : Rw M a cap xs) {j : Nat} (hj : j < xs.length) (v : Int32) : ∃ M', sI M 0 (a + 1) (nI j) v = some M' ∧ Rw M' a cap (xs.set j v) ∧ Of (fun k => k = a ∨ k = a + 1) M M' := by
  obtain ⟨l1, l2⟩ := h.ll
  obtain ⟨q1, q2, q3, f, q4, q5⟩ := h
  have lb := lt_of_at q4
  refine ⟨_, sI_ok q4 (by omega) l2, ⟨by simpa using q1, q2, ?_, upd f j v, ?_, ?_⟩, Of.set (Or.inr rfl)⟩
  · rw [List.getElem?_set_ne (by omega), List.length_set]; exact q3
  · simp [lb]
  · intro i hi
    rw [List.length_set] at hi
    by_cases e : j = i
    · subst e
      simp [hi, pk_us]
    · rw [List.getElem?_set_ne e, q5 i hi, pk_un (fun q => e q.symm)]
theorem R_has1 (h : Rw M a cap xs) {j : Nat} (hj : j < xs.length) : fX3_has M a (nI j) = some 1 := by
  obtain ⟨l1, l2⟩ := h.ll
  rw [R_has h, nI_clamp (show j < 2 ^ 31 by omega), if_pos ⟨nI_pos (by omega), hj⟩]
theorem R_has0 (h : Rw M a cap xs) {i : Int32} (hi : ¬ (¬ i < 0 ∧ i.toNatClampNeg < xs.length)) : fX3_has M a i = some 0 := by
  rw [R_has h, if_neg hi]
theorem R_exchange (h : Rw M a cap xs) {j : Nat} (hj : j < xs.length) (v : Int32) : ∃ M', fX3_exchange M a (nI j) v = some (xs.getD j 0, M') ∧ Rw M' a cap (xs.set j v) ∧ Of (fun k => k = a ∨ k = a + 1) M M' := by
  obtain ⟨l1, l2⟩ := h.ll
  obtain ⟨M', e, r⟩ := h.wr hj v
  refine ⟨M', ?_, r⟩
  simp only [fX3_exchange, h.gC, R_has1 h hj, h.gQ, h.aI hj, Option.bind_some, e]
  rw [if_neg (by decide)]
theorem R_raise (h : Rw M a cap xs) {j : Nat} (hj : j < xs.length) (v : Int32) : ∃ M', fX3_raise M a (nI j) v = some M' ∧ Rw M' a cap (xs.set j (xs.getD j 0 + v)) ∧ Of (fun k => k = a ∨ k = a + 1) M M' := by
  obtain ⟨l1, l2⟩ := h.ll
  obtain ⟨M', e, r⟩ := h.wr hj (xs.getD j 0 + v)
  refine ⟨M', ?_, r⟩
  simp only [fX3_raise, h.gC, R_has1 h hj, h.gQ, h.aI hj, Option.bind_some, e]
  rw [if_neg (by decide)]
theorem R_raise_out (h : Rw M a cap xs) {i : Int32} (hi : ¬ (¬ i < 0 ∧ i.toNatClampNeg < xs.length)) (v : Int32) : fX3_raise M a i v = some M := by
  simp only [fX3_raise, h.gC, R_has0 h hi, Option.bind_some, if_true]
theorem R_takeLast {v : Int32} (h : Rw M a cap (xs ++ [v])) : ∃ M', fX3_takeLast M a = some (v, M') ∧ Rw M' a cap xs ∧ Of (fun k => k = a ∨ k = a + 1) M M' := by
  obtain ⟨l1, l2⟩ := h.ll
  have hh := h
  obtain ⟨q1, q2, q3, f, q4, q5⟩ := h
  have el : (xs ++ [v]).length = xs.length + 1 := by simp
  rw [el] at q1 q3 l1 q5
  have la := lt_of_at q3
  have e1 : (M.set a (.inr (3, [.ref (a + 1), .int (nI xs.length)])))[a]? = some (.inr (3, [.ref (a + 1), .int (nI xs.length)])) := by simp [la]
  have e2 : (M.set a (.inr (3, [.ref (a + 1), .int (nI xs.length)])))[a + 1]? = some (.inl (0, cap, .inl f)) := by
    rw [List.getElem?_set_ne (by omega)]; exact q4
  refine ⟨M.set a (.inr (3, [.ref (a + 1), .int (nI xs.length)])), ?_, ⟨by omega, q2, e1, f, e2, fun i hi => ?_⟩, Of.set (Or.inl rfl)⟩
  · have g := pF_ok (v := .int (nI xs.length)) q3 (k := 1) (Nat.le_of_ble_eq_true rfl)
    simp only [fX3_takeLast, hh.gC, hh.gI, hh.gQ, hh.aL, Option.bind_some, el]
    rw [if_neg (nI_nle (by omega) l1), if_pos (nI_le q1 l2), nI_pred, g]
    simp only [Option.bind_some, List.set]
    rw [gQ_ok e1 (k := 0) rfl, gI_ok e1 (k := 1) rfl]
    simp only [Option.bind_some]
    rw [aI_ok e2 (by omega) l2]
    have := q5 xs.length (by omega)
    simp at this
    simp [← this]
  · have := q5 i (by omega)
    rw [List.getElem?_append_left hi] at this
    exact this
theorem R_takeLast0 (h : Rw M a cap []) : fX3_takeLast M a = some (0, M) := by
  simp only [fX3_takeLast, h.gC, h.gI, Option.bind_some]
  rw [if_pos (by decide)]
theorem R_fill_loop {N c : Nat} (v : Int32) (hc : c < 2 ^ 31) : ∀ (n i : Nat) (M : Mm) (xs : List Int32), Rw M a cap xs → c - i < n → i ≤ c → xs.length + (c - i) ≤ cap → ∃ M', LX3_fill_6 N n M a (nI c) v (nI i) = some M' ∧ Rw M' a cap (xs ++ List.replicate (c - i) v) ∧ Of (fun k => k = a ∨ k = a + 1) M M' := by
  intro n
  induction n with
  | zero => intro i M xs _ h; omega
  | succ n ih =>
    intro i M xs h h1 h2 h3
    show ∃ M', BX3_fill_6 N (LX3_fill_6 N n) M a (nI c) v (nI i) = some M' ∧ _
    unfold BX3_fill_6
    by_cases e : i = c
    · subst e
      rw [if_pos (nI_le (Nat.le_refl _) hc)]
      exact ⟨M, rfl, by simpa using h, Of.rf⟩
    · rw [if_neg (nI_ge (by omega) hc)]
      obtain ⟨M1, g1, g2, g3⟩ := R_add h v (by omega)
      obtain ⟨M2, k1, k2, k3⟩ := ih (i + 1) M1 (xs ++ [v]) g2 (by omega) (by omega) (by simp; omega)
      refine ⟨M2, ?_, ?_, g3.trans k3⟩
      · rw [g1]
        show LX3_fill_6 N n M1 a (nI c) v (nI i + 1) = _
        rw [nI_1]
        exact k1
      · have : c - i = c - (i + 1) + 1 := by omega
        rw [this, List.replicate_succ, ← List.singleton_append, ← List.append_assoc]
        exact k2
theorem R_fill {N c : Nat} (h : Rw M a cap xs) (v : Int32) (hc : c ≤ cap) (hN : 1001 ≤ N) : ∃ M', fX3_fill N M a (nI c) v = some M' ∧ Rw M' a cap (List.replicate c v) ∧ Of (fun k => k = a ∨ k = a + 1) M M' := by
  obtain ⟨l1, l2⟩ := h.ll
  obtain ⟨M1, g1, g2, g3⟩ := R_clear h
  have := h.2.1
  obtain ⟨M2, k1, k2, k3⟩ := R_fill_loop (N := N) v (show c < 2 ^ 31 by omega) N 0 M1 [] g2 (by omega) (by omega) (by simpa using hc)
  refine ⟨M2, ?_, by simpa using k2, g3.trans k3⟩
  simp only [fX3_fill, h.gC, g1, Option.bind_some]
  exact k1
theorem R_insert (h : Rw M a cap xs) {j : Nat} (hj : j ≤ xs.length) (hl : xs.length < cap) (v : Int32) : ∃ M', fX3_insert M a (nI j) v = some M' ∧ Rw M' a cap (xs.take j ++ v :: xs.drop j) ∧ Of (fun k => k = a ∨ k = a + 1) M M' := by
  obtain ⟨l1, l2⟩ := h.ll
  have hh := h
  obtain ⟨q1, q2, q3, f, q4, q5⟩ := h
  have la := lt_of_at q3
  have lb := lt_of_at q4
  have e1 : ∀ z : va_E, (M.set (a + 1) z)[a]? = some (.inr (3, [.ref (a + 1), .int (nI xs.length)])) := fun z => by
    rw [List.getElem?_set_ne (by omega)]; exact q3
  have e2 : ∀ z : va_E, (M.set (a + 1) z)[a + 1]? = some z := fun z => by simp [lb]
  have ec := cpI_ok (sp := j) (dp := j + 1) (n := xs.length - j) q4 q4 l2 l2 (by omega) (by omega)
  refine ⟨((M.set (a + 1) (.inl (0, cap, .inl (upd (va_cpy f f j (j + 1) (xs.length - j)) j v))))).set a (.inr (3, [.ref (a + 1), .int (nI (xs.length + 1))])), ?_, ⟨?_, q2, ?_, upd (va_cpy f f j (j + 1) (xs.length - j)) j v, ?_, ?_⟩, (Of.set (Or.inr rfl)).trans (Of.set (Or.inl rfl))⟩
  · simp only [fX3_insert, hh.gC, hh.gI, hh.gQ, hh.aL, Option.bind_some, if_neg (nI_pos (show j < 2 ^ 31 by omega)), if_neg (nI_nlt hj l1), if_pos (nI_lt hl l2)]
    rw [nI_1, pk_sub hj, ec]
    simp only [Option.bind_some]
    rw [gQ_ok (e1 _) (k := 0) rfl]
    simp only [Option.bind_some]
    rw [sI_ok (e2 _) (show j < cap by omega) l2]
    simp only [Option.bind_some, List.set_set]
    rw [gI_ok (e1 _) (k := 1) rfl]
    simp only [Option.bind_some]
    rw [pF_ok (e1 _) (k := 1) (Nat.le_of_ble_eq_true rfl), nI_1]
    rfl
  · simp; omega
  · have : (xs.take j ++ v :: xs.drop j).length = xs.length + 1 := by simp; omega
    rw [this]
    simp [la]
  · rw [List.getElem?_set_ne (by omega)]
    simp [lb]
  · intro i hi
    have hlen : (xs.take j).length = j := by simp; omega
    have hi : i < xs.length + 1 := by
      simp at hi; omega
    rcases Nat.lt_trichotomy i j with g | g | g
    · rw [List.getElem?_append_left (by omega), List.getElem?_take_of_lt g, q5 i (by omega), pk_un (by omega), pk_cpy_out (by omega)]
    · subst g
      rw [List.getElem?_append_right (by omega), hlen, Nat.sub_self, pk_us]
      rfl
    · rw [List.getElem?_append_right (by omega), hlen, pk_un (by omega), pk_cpy_in (by omega) (by omega)]
      obtain ⟨t, rfl⟩ : ∃ t, i = j + 1 + t := ⟨i - (j + 1), by omega⟩
      rw [show j + 1 + t - j = t + 1 by omega, List.getElem?_cons_succ, List.getElem?_drop, q5 (j + t) (by omega)]
      congr 2
      omega
theorem R_become {b cb : Nat} {ys : List Int32} (h : Rw M a cap xs) (g : Rw M b cb ys) (hab : a ≠ b) (hl : ys.length ≤ cap) : ∃ M', fX3_become M a b = some M' ∧ Rw M' a cap ys ∧ Of (fun k => k = a ∨ k = a + 1) M M' := by
  obtain ⟨l1, l2⟩ := h.ll
  obtain ⟨m1, m2⟩ := g.ll
  have hh := h
  have gg := g
  obtain ⟨q1, q2, q3, f, q4, q5⟩ := h
  obtain ⟨p1, p2, p3, f2, p4, p5⟩ := g
  have la := lt_of_at q3
  have lb := lt_of_at q4
  have n1 : a ≠ b + 1 := fun e => by rw [e, p4] at q3; cases q3
  have n2 : a + 1 ≠ b := fun e => by rw [e, p3] at q4; cases q4
  have e1 : (M.set a (.inr (3, [.ref (a + 1), .int (nI ys.length)])))[a]? = some (.inr (3, [.ref (a + 1), .int (nI ys.length)])) := by simp [la]
  have e2 : (M.set a (.inr (3, [.ref (a + 1), .int (nI ys.length)])))[a + 1]? = some (.inl (0, cap, .inl f)) := by
    rw [List.getElem?_set_ne (by omega)]; exact q4
  have e3 : (M.set a (.inr (3, [.ref (a + 1), .int (nI ys.length)])))[b]? = some (.inr (3, [.ref (b + 1), .int (nI ys.length)])) := by
    rw [List.getElem?_set_ne hab]; exact p3
  have e4 : (M.set a (.inr (3, [.ref (a + 1), .int (nI ys.length)])))[b + 1]? = some (.inl (0, cb, .inl f2)) := by
    rw [List.getElem?_set_ne n1]; exact p4
  have ec := cpI_ok (sp := 0) (dp := 0) (n := ys.length) e4 e2 m2 l2 (by omega) (by omega)
  have em : fJ9_min_7cf53 M (nI ys.length) (nI cap) = some (nI ys.length) := by
    unfold fJ9_min_7cf53
    rw [if_neg (nI_nlt hl l2)]
  refine ⟨(M.set a (.inr (3, [.ref (a + 1), .int (nI ys.length)]))).set (a + 1) (.inl (0, cap, .inl (va_cpy f2 f 0 0 ys.length))), ?_, ⟨hl, q2, ?_, va_cpy f2 f 0 0 ys.length, ?_, ?_⟩, (Of.set (Or.inl rfl)).trans (Of.set (Or.inr rfl))⟩
  · simp only [fX3_become, hh.gC, gg.gI, hh.gQ, hh.aL, Option.bind_some, em]
    rw [pF_ok q3 (k := 1) (Nat.le_of_ble_eq_true rfl)]
    show ((some (M.set a (.inr (3, [.ref (a + 1), .int (nI ys.length)])))).bind _) = _
    simp only [Option.bind_some]
    rw [gQ_ok e3 (k := 0) rfl, gQ_ok e1 (k := 0) rfl, gI_ok e1 (k := 1) rfl]
    simp only [Option.bind_some]
    rw [← nI_0, ec]
    rfl
  · rw [List.getElem?_set_ne (by omega)]; exact e1
  · simp [lb]
  · intro i hi
    rw [p5 i hi, pk_cpy_in (by omega) (by omega)]
    simp
end RW
