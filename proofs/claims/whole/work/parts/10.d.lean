/-! move -/
abbrev okM (len : Nat) (i n : Int32) : Prop := ¬ n < 0 ∧ ¬ i < 0 ∧ i.toNatClampNeg + n.toNatClampNeg ≤ len
def mvL (xs ys : List Int32) (i j n : Nat) : List Int32 := (List.range xs.length).map (fun k => if j ≤ k ∧ k < j + n then ys.getD (i + (k - j)) 0 else xs.getD k 0)
theorem mvL_len (xs ys : List Int32) (i j n : Nat) : (mvL xs ys i j n).length = xs.length := by simp [mvL]
theorem mvL_at {xs ys : List Int32} {i j n k : Nat} (hk : k < xs.length) : (mvL xs ys i j n)[k]? = some (if j ≤ k ∧ k < j + n then ys.getD (i + (k - j)) 0 else xs.getD k 0) := by
  simp [mvL, hk]
theorem mvL_D {xs ys : List Int32} {i j n k : Nat} (hk : k < xs.length) : (mvL xs ys i j n).getD k 0 = if j ≤ k ∧ k < j + n then ys.getD (i + (k - j)) 0 else xs.getD k 0 := by
  rw [List.getD_eq_getElem?_getD, mvL_at hk]
  rfl
def sp_move (σ : Sg) (s i t j n : Int32) : An := if wi s 0 3 ∧ wi t 0 3 then (if (gs σ s.toNatClampNeg).1 = 0 ∨ (gs σ t.toNatClampNeg).1 = 0 then er σ 2 else if (gs σ s.toNatClampNeg).1 = (gs σ t.toNatClampNeg).1 then (if okM (gs σ s.toNatClampNeg).2.length i n ∧ okM (gs σ t.toNatClampNeg).2.length j n then (n, shS σ t.toNatClampNeg (gs σ t.toNatClampNeg).1 (mvL (gs σ t.toNatClampNeg).2 (gs σ s.toNatClampNeg).2 i.toNatClampNeg j.toNatClampNeg n.toNatClampNeg)) else er σ 1) else er σ 5) else er σ 1
theorem C_hasN {M : Mm} {σ : Sg} (h : RelC M σ) {j : Nat} (hj : j < 4) (hl : (gs σ j).2.length ≤ 40) (i n : Int32) : fX4_hasNumbers M (62 + 3 * j) i n = some (if okM (gs σ j).2.length i n then 1 else 0) := by
  obtain ⟨e1, e2⟩ := h.sh hj
  simp only [fX4_hasNumbers, gC_ok e1, gQ_ok e1 (k := 0) rfl, R_size e2, Option.bind_some]
  by_cases g1 : n < 0
  · rw [if_pos g1, if_neg (fun q => q.1 g1)]
  rw [if_neg g1]
  by_cases g2 : i < 0
  · rw [if_pos g2, if_neg (fun q => q.2.1 g2)]
  rw [if_neg g2]
  obtain ⟨n, hn, rfl⟩ := nI_of g1
  obtain ⟨i, hi, rfl⟩ := nI_of g2
  unfold okM
  rw [nI_clamp hn, nI_clamp hi]
  by_cases g3 : (gs σ j).2.length < n
  · rw [if_pos (nI_lt g3 hn), if_neg (fun q => by have := q.2.2; omega)]
  rw [if_neg (nI_nlt (by omega) (by omega)), pk_sub (by omega)]
  by_cases g4 : (gs σ j).2.length - n < i
  · rw [if_pos (nI_lt g4 hi), if_neg (fun q => by have := q.2.2; omega)]
  · rw [if_neg (nI_nlt (by omega) (by omega)), if_pos ⟨g1, g2, by omega⟩]
theorem R_takeFrom {M : Mm} {a b ca cb : Nat} {xs ys : List Int32} (h : Rw M a ca xs) (g : Rw M b cb ys) {i j n : Nat} (h1 : i + n ≤ ys.length) (h2 : j + n ≤ xs.length) : ∃ M', fX3_takeFrom M a b (nI i) (nI j) (nI n) = some M' ∧ Rw M' a ca (mvL xs ys i j n) ∧ Of (fun k => k = a ∨ k = a + 1) M M' := by
  obtain ⟨l1, l2⟩ := h.ll
  obtain ⟨m1, m2⟩ := g.ll
  have hh := h
  have gg := g
  obtain ⟨q1, q2, q3, f, q4, q5⟩ := h
  obtain ⟨p1, p2, p3, f2, p4, p5⟩ := g
  have lb := lt_of_at q4
  have ec := cpI_ok (sp := i) (dp := j) (n := n) p4 q4 m2 l2 (by omega) (by omega)
  refine ⟨_, ?_, ⟨by rw [mvL_len]; exact q1, q2, ?_, va_cpy f2 f i j n, ?_, ?_⟩, Of.set (a := a + 1) (x := .inl (0, ca, .inl (va_cpy f2 f i j n))) (Or.inr rfl)⟩
  · simp only [fX3_takeFrom, hh.gC, gg.gI, hh.gI, hh.gQ, gg.gQ, Option.bind_some, if_neg (nI_pos (show n < 2 ^ 31 by omega)), if_neg (nI_pos (show i < 2 ^ 31 by omega)), if_neg (nI_pos (show j < 2 ^ 31 by omega))]
    rw [pk_sub (show n ≤ ys.length by omega), if_neg (nI_nlt (by omega) (by omega)), pk_sub (show n ≤ xs.length by omega), if_neg (nI_nlt (by omega) (by omega)), ec]
    rfl
  · rw [mvL_len, List.getElem?_set_ne (by omega)]; exact q3
  · simp [lb]
  · intro k hk
    rw [mvL_len] at hk
    rw [mvL_at hk]
    by_cases z : j ≤ k ∧ k < j + n
    · rw [if_pos z, pk_cpy_in z.1 z.2, List.getD_eq_getElem?_getD, p5 _ (by omega)]
      rfl
    · rw [if_neg z, pk_cpy_out (by omega), List.getD_eq_getElem?_getD, q5 _ hk]
      rfl
theorem C_move {M : Mm} {σ : Sg} (h : RelC M σ) (hI : Ig σ) (s i t j n : Int32) : DoC M (fX10_move M 0 s i t j n) (sp_move σ s i t j n) := by
  have J := DoC.er h (a := 1) 1 rfl (by decide)
  have J2 := DoC.er h (a := 2) 2 rfl (by decide)
  unfold fX10_move sp_move jX10_move_24 jX10_move_46 jX10_move_94
  simp only [h.c, Option.bind_some, C_sheetAt h, om_i]
  by_cases g : wi s 0 3 ∧ wi t 0 3
  · rw [if_pos g, if_pos g.1, if_pos g.2]
    obtain ⟨s, hs, rfl⟩ := wi_ix (n := 3) (by decide) rfl g.1
    obtain ⟨t, ht, rfl⟩ := wi_ix (n := 3) (by decide) rfl g.2
    rw [nI_clamp (show s < 2 ^ 31 by omega), nI_clamp (show t < 2 ^ 31 by omega)]
    have ls := (hI.2.2.2.1 s (by omega)).1
    have lt := (hI.2.2.2.1 t (by omega)).1
    obtain ⟨e1, e2⟩ := h.sh (show s < 4 by omega)
    obtain ⟨f1, f2⟩ := h.sh (show t < 4 by omega)
    have em : ∀ j : Nat, j < 4 → fX4_isMissing M (62 + 3 * j) = some (if (gs σ j).1 = 0 then 1 else 0) := fun j hj => by
      obtain ⟨e1, e2⟩ := h.sh hj
      simp only [fX4_isMissing, gC_ok e1, gI_ok e1 (k := 1) rfl, Option.bind_some]
      split <;> rfl
    simp only [em s (by omega), em t (by omega), C_hasN h (show s < 4 by omega) ls, C_hasN h (show t < 4 by omega) lt, gI_ok e1 (k := 1) rfl, gI_ok f1 (k := 1) rfl, gQ_ok e1 (k := 0) rfl, gQ_ok f1 (k := 0) rfl, Option.bind_some, gd]
    by_cases z1 : (gs σ s).1 = 0
    · have z1' : (gs σ s).1 = 0 ∨ (gs σ t).1 = 0 := Or.inl z1
      rw [if_pos z1', if_pos z1]; exact J2
    rw [if_neg z1]
    by_cases z2 : (gs σ t).1 = 0
    · have z2' : (gs σ s).1 = 0 ∨ (gs σ t).1 = 0 := Or.inr z2
      rw [if_pos z2', if_pos z2]; exact J2
    rw [if_neg z2, if_neg (show ¬ ((gs σ s).1 = 0 ∨ (gs σ t).1 = 0) from fun q => q.elim z1 z2)]
    by_cases z3 : (gs σ s).1 = (gs σ t).1
    · rw [if_pos z3, if_pos z3]
      by_cases z4 : okM (gs σ s).2.length i n ∧ okM (gs σ t).2.length j n
      · rw [if_pos z4, if_pos z4.1, if_pos z4.2]
        obtain ⟨n, hn, rfl⟩ := nI_of z4.1.1
        obtain ⟨i, hi, rfl⟩ := nI_of z4.1.2.1
        obtain ⟨j, hj, rfl⟩ := nI_of z4.2.2.1
        have w1 := z4.1.2.2
        have w2 := z4.2.2.2
        rw [nI_clamp hn, nI_clamp hi] at w1
        rw [nI_clamp hn, nI_clamp hj] at w2
        rw [nI_clamp hn, nI_clamp hi, nI_clamp hj]
        obtain ⟨M', k1, k2, k3⟩ := R_takeFrom f2 e2 w1 w2
        have o2 : Of (fun k => 62 + 3 * t ≤ k ∧ k < 65 + 3 * t) M M' := k3.mono (fun k q => by omega)
        refine ⟨M', by rw [k1]; rfl, h.shU (by omega) o2 (by rw [k3.2 _ (by omega)]; exact f1) k2, o2.frC (fun q z => by omega)⟩
      · rw [if_neg z4]
        by_cases z5 : okM (gs σ s).2.length i n
        · rw [if_pos z5, if_neg (fun q => z4 ⟨z5, q⟩)]; exact J
        · rw [if_neg z5]; exact J
    · rw [if_neg z3, if_neg z3]
      exact DoC.er h 5 rfl (by decide)
  · rw [if_neg g]
    by_cases g1 : wi s 0 3
    · rw [if_pos g1, if_neg (fun q => g ⟨g1, q⟩)]; exact J
    · rw [if_neg g1]; exact J
