/-! move in the reference -/
theorem sb_ti {a b : Nat} (ha : a < 2 ^ 31) (hb : b < 2 ^ 31) : (nI a - nI b).toInt = (a : Int) - b := by
  rw [Int32.toInt_sub, nI_toInt ha, nI_toInt hb]
  exact Int.bmod_eq_of_le (by omega) (by omega)
theorem sb_lt {l i n : Nat} (hl : l < 2 ^ 31) (hi : i < 2 ^ 31) (hn : n < 2 ^ 31) : nI l - nI i < nI n ↔ l < i + n := by
  rw [Int32.lt_iff_toInt_lt, sb_ti hl hi, nI_toInt hn]
  omega
theorem sb_le {l i n : Nat} (hl : l < 2 ^ 31) (hi : i < 2 ^ 31) (hn : n < 2 ^ 31) : nI n ≤ nI l - nI i ↔ i + n ≤ l := by
  rw [Int32.le_iff_toInt_le, sb_ti hl hi, nI_toInt hn]
  omega
theorem mv_ix (s i k : Nat) : (40 : Int32) * nI s + nI i + nI k = nI (40 * s + i + k) := by
  rw [show (40 : Int32) * nI s = nI (40 * s) from pk_mul 40 s, nI_add, nI_add]
theorem T_mvStep {M : Mm} {F : Nat → Int32} {A : Nat → Nat → Int32} (h : TwAt M F A) {s i t j k : Nat} (h1 : 40 * s + i + k < 160) (h2 : 40 * t + j + k < 160) {N : Nat} {K : Mm → Nat → Int32 → Int32 → Int32 → Int32 → Int32 → Int32 → Int32 → Option (Int32 × Mm)} {x5 x6 x7 : Int32} : ∃ M1, jX11_move_157 N K M 137 (nI s) (nI i) (nI t) (nI j) x5 x6 x7 (nI k) = K M1 137 (nI s) (nI i) (nI t) (nI j) x5 x6 (x7 + 1) ∧ TwAt M1 F (u2 A 7 (40 * t + j + k) (A 7 (40 * s + i + k))) ∧ FrT M M1 := by
  obtain ⟨M1, e1, e2, e3⟩ := T_put h 7 (by decide) (j := 40 * t + j + k) (show 40 * t + j + k < 160 from h2) (A 7 (40 * s + i + k))
  have e1' : sI M 0 145 (nI (40 * t + j + k)) (A 7 (40 * s + i + k)) = some M1 := e1
  have e0 : aI M 0 145 (nI (40 * s + i + k)) = some (A 7 (40 * s + i + k)) := T_get h 7 (by decide) (show 40 * s + i + k < 160 from h1)
  refine ⟨M1, ?_, e2, e3⟩
  simp only [jX11_move_157, T_ref h (k := 8) (x := 145) rfl, mv_ix, e0, e1', Option.bind_some]
theorem T_mvUp {N : Nat} {F : Nat → Int32} {s i t j n : Nat} (h1 : 40 * s + i + n ≤ 160) (h2 : 40 * t + j + n ≤ 160) (hd : 40 * t + j ≤ 40 * s + i ∨ 40 * s + i + n ≤ 40 * t + j) : ∀ (f k : Nat) (M : Mm) (A : Nat → Nat → Int32), TwAt M F A → k ≤ n → n - k < f → ∃ M' A', LX11_move_133 N f M 137 (nI s) (nI i) (nI t) (nI j) (nI n) 0 (nI k) = some (nI n, M') ∧ TwAt M' F A' ∧ FrT M M' ∧ (∀ q, q ≠ 7 → A' q = A q) ∧ ∀ p, A' 7 p = if 40 * t + j + k ≤ p ∧ p < 40 * t + j + n then A 7 (40 * s + i + (p - (40 * t + j))) else A 7 p := by
  intro f
  induction f with
  | zero => intro k M A _ _ h; omega
  | succ f ih =>
    intro k M A h g1 g2
    show ∃ M' A', BX11_move_133 N (LX11_move_133 N f) M 137 (nI s) (nI i) (nI t) (nI j) (nI n) 0 (nI k) = some (nI n, M') ∧ _
    unfold BX11_move_133
    by_cases e : k = n
    · subst e
      rw [if_pos (nI_le (Nat.le_refl _) (by omega))]
      exact ⟨M, A, rfl, h, Of.rf, fun _ _ => rfl, fun p => by rw [if_neg (by omega)]⟩
    · rw [if_neg (nI_ge (by omega) (by omega)), if_pos rfl]
      obtain ⟨M1, e1, e2, e3⟩ := T_mvStep h (s := s) (i := i) (t := t) (j := j) (k := k) (by omega) (by omega) (N := N) (K := LX11_move_133 N f) (x5 := nI n) (x6 := 0) (x7 := nI k)
      obtain ⟨M2, A2, d1, d2, d3, d4, d5⟩ := ih (k + 1) M1 _ e2 (by omega) (by omega)
      refine ⟨M2, A2, by rw [e1, nI_1]; exact d1, d2, e3.trans d3, fun q hq => by rw [d4 q hq, u2_n hq], fun p => ?_⟩
      rw [d5 p]
      show (if 40 * t + j + (k + 1) ≤ p ∧ p < 40 * t + j + n then upd (A 7) (40 * t + j + k) (A 7 (40 * s + i + k)) (40 * s + i + (p - (40 * t + j))) else upd (A 7) (40 * t + j + k) (A 7 (40 * s + i + k)) p) = _
      by_cases q : p = 40 * t + j + k
      · subst q
        rw [if_neg (by omega), pk_us, if_pos (by omega)]
        congr 1
        omega
      · rw [pk_un q]
        by_cases w : 40 * t + j + (k + 1) ≤ p ∧ p < 40 * t + j + n
        · rw [if_pos w, if_pos (by omega), pk_un (by omega)]
        · rw [if_neg w, if_neg (by omega)]
theorem T_mvDn {N : Nat} {F : Nat → Int32} {s i t j n : Nat} (h1 : 40 * s + i + n ≤ 160) (h2 : 40 * t + j + n ≤ 160) (hd : 40 * s + i ≤ 40 * t + j) : ∀ (f k : Nat) (M : Mm) (A : Nat → Nat → Int32), TwAt M F A → k ≤ n → n - k < f → ∃ M' A', LX11_move_133 N f M 137 (nI s) (nI i) (nI t) (nI j) (nI n) 1 (nI k) = some (nI n, M') ∧ TwAt M' F A' ∧ FrT M M' ∧ (∀ q, q ≠ 7 → A' q = A q) ∧ ∀ p, A' 7 p = if 40 * t + j ≤ p ∧ p < 40 * t + j + (n - k) then A 7 (40 * s + i + (p - (40 * t + j))) else A 7 p := by
  intro f
  induction f with
  | zero => intro k M A _ _ h; omega
  | succ f ih =>
    intro k M A h g1 g2
    show ∃ M' A', BX11_move_133 N (LX11_move_133 N f) M 137 (nI s) (nI i) (nI t) (nI j) (nI n) 1 (nI k) = some (nI n, M') ∧ _
    unfold BX11_move_133
    by_cases e : k = n
    · subst e
      rw [if_pos (nI_le (Nat.le_refl _) (by omega))]
      exact ⟨M, A, rfl, h, Of.rf, fun _ _ => rfl, fun p => by rw [if_neg (by omega)]⟩
    · rw [if_neg (nI_ge (by omega) (by omega)), if_neg (by decide)]
      have ek : nI n - 1 - nI k = nI (n - 1 - k) := by
        rw [show nI n - 1 = nI (n - 1) from pk_sub (b := 1) (by omega), pk_sub (by omega)]
      rw [ek]
      obtain ⟨M1, e1, e2, e3⟩ := T_mvStep h (s := s) (i := i) (t := t) (j := j) (k := n - 1 - k) (by omega) (by omega) (N := N) (K := LX11_move_133 N f) (x5 := nI n) (x6 := 1) (x7 := nI k)
      obtain ⟨M2, A2, d1, d2, d3, d4, d5⟩ := ih (k + 1) M1 _ e2 (by omega) (by omega)
      refine ⟨M2, A2, by rw [e1, nI_1]; exact d1, d2, e3.trans d3, fun q hq => by rw [d4 q hq, u2_n hq], fun p => ?_⟩
      rw [d5 p]
      show (if 40 * t + j ≤ p ∧ p < 40 * t + j + (n - (k + 1)) then upd (A 7) (40 * t + j + (n - 1 - k)) (A 7 (40 * s + i + (n - 1 - k))) (40 * s + i + (p - (40 * t + j))) else upd (A 7) (40 * t + j + (n - 1 - k)) (A 7 (40 * s + i + (n - 1 - k))) p) = _
      by_cases q : p = 40 * t + j + (n - 1 - k)
      · subst q
        rw [if_neg (by omega), pk_us, if_pos (by omega)]
        congr 1
        omega
      · rw [pk_un q]
        by_cases w : 40 * t + j ≤ p ∧ p < 40 * t + j + (n - (k + 1))
        · rw [if_pos w, if_pos (by omega), pk_un (by omega)]
        · rw [if_neg w, if_neg (by omega)]
theorem T_mvEnd {F : Nat → Int32} {A A' : Nat → Nat → Int32} {σ : Sg} (k2 : TwR F A σ) (hI : Ig σ) {s i t j n : Nat} (hs : s < 4) (ht : t < 4) (w1 : i + n ≤ (gs σ s).2.length) (w2 : j + n ≤ (gs σ t).2.length) (a1 : ∀ q, q ≠ 7 → A' q = A q) (a2 : ∀ p, A' 7 p = if 40 * t + j ≤ p ∧ p < 40 * t + j + n then A 7 (40 * s + i + (p - (40 * t + j))) else A 7 p) : TwR F A' (shS σ t (gs σ t).1 (mvL (gs σ t).2 (gs σ s).2 i j n)) := by
  refine k2.shU (fun q _ _ h7 => a1 q h7) ?_
  intro l hl
  have r := k2.2.2.2.2.1 l hl
  have rs := k2.2.2.2.2.1 s hs
  have ll := (hI.2.2.2.1 l hl).1
  have ls := (hI.2.2.2.1 s hs).1
  have lt := (hI.2.2.2.1 t ht).1
  dsimp only
  rw [a1 5 (by decide), a1 6 (by decide)]
  by_cases e : l = t
  · subst e
    rw [if_pos rfl]
    refine ⟨r.1, by rw [mvL_len]; exact r.2.1, fun k hk => ?_⟩
    rw [mvL_len] at hk
    rw [mvL_D hk, a2]
    by_cases z : j ≤ k ∧ k < j + n
    · rw [if_pos z, if_pos (by omega), ← rs.2.2 _ (by omega)]
      congr 1
      omega
    · rw [if_neg z, if_neg (by omega)]
      exact r.2.2 k hk
  · rw [if_neg e]
    refine ⟨r.1, r.2.1, fun k hk => ?_⟩
    rw [a2, if_neg (by omega)]
    exact r.2.2 k hk
theorem T_move {N : Nat} {M : Mm} {σ : Sg} (h : RelT M σ) (hI : Ig σ) (hN : 2000 ≤ N) (s i t j n : Int32) : DoT M (fX11_move N M 137 s i t j n) (sp_move σ s i t j n) := by
  obtain ⟨F, A, k1, k2⟩ := id h
  have J := DoT.er h hI.2.2.1 (a := 1) 1 rfl (by decide)
  have J2 := DoT.er h hI.2.2.1 (a := 2) 2 rfl (by decide)
  unfold fX11_move sp_move jX11_move_14 jX11_move_38 jX11_move_106
  simp only [T_c k1, Option.bind_some, T_isSheet, gd]
  by_cases g : wi s 0 3 ∧ wi t 0 3
  · rw [if_pos g, if_pos g.1, if_pos g.2]
    obtain ⟨s, hs, rfl⟩ := wi_ix (n := 3) (by decide) rfl g.1
    obtain ⟨t, ht, rfl⟩ := wi_ix (n := 3) (by decide) rfl g.2
    rw [nI_clamp (show s < 2 ^ 31 by omega), nI_clamp (show t < 2 ^ 31 by omega)]
    have ls := (hI.2.2.2.1 s (by omega)).1
    have lt := (hI.2.2.2.1 t (by omega)).1
    have r5 : ∀ j : Nat, j < 4 → aI M 0 143 (nI j) = some (gs σ j).1 := fun j hj => by rw [← (k2.2.2.2.2.1 j hj).1]; exact T_get k1 5 (by decide) (show j < 4 from hj)
    have r6 : ∀ j : Nat, j < 4 → aI M 0 144 (nI j) = some (nI (gs σ j).2.length) := fun j hj => by rw [← (k2.2.2.2.2.1 j hj).2.1]; exact T_get k1 6 (by decide) (show j < 4 from hj)
    simp only [T_ref k1 (k := 6) (x := 143) rfl, T_ref k1 (k := 7) (x := 144) rfl, r5 s (by omega), r5 t (by omega), r6 s (by omega), r6 t (by omega), Option.bind_some]
    by_cases z1 : (gs σ s).1 = 0
    · have z1' : (gs σ s).1 = 0 ∨ (gs σ t).1 = 0 := Or.inl z1
      rw [if_pos z1', if_pos z1]; exact J2
    rw [if_neg z1]
    by_cases z2 : (gs σ t).1 = 0
    · have z2' : (gs σ s).1 = 0 ∨ (gs σ t).1 = 0 := Or.inr z2
      rw [if_pos z2', if_pos z2]; exact J2
    rw [if_neg z2, if_neg (show ¬ ((gs σ s).1 = 0 ∨ (gs σ t).1 = 0) from fun q => q.elim z1 z2)]
    by_cases z3 : (gs σ s).1 = (gs σ t).1
    · rw [if_pos z3, if_pos z3]
      by_cases c1 : n < 0
      · rw [if_pos c1, if_neg (fun q => q.1.1 c1)]; exact J
      rw [if_neg c1]
      by_cases c2 : i < 0
      · rw [if_pos c2, if_neg (fun q => q.1.2.1 c2)]; exact J
      rw [if_neg c2]
      by_cases c3 : j < 0
      · rw [if_pos c3, if_neg (fun q => q.2.2.1 c3)]; exact J
      rw [if_neg c3]
      obtain ⟨n, hn, rfl⟩ := nI_of c1
      obtain ⟨i, hi, rfl⟩ := nI_of c2
      obtain ⟨j, hj, rfl⟩ := nI_of c3
      unfold okM
      rw [nI_clamp hn, nI_clamp hi, nI_clamp hj]
      by_cases c4 : (gs σ s).2.length < i + n
      · rw [if_pos ((sb_lt (by omega) hi hn).mpr c4), if_neg (fun q => by have := q.1.2.2; omega)]; exact J
      rw [if_neg (fun q => c4 ((sb_lt (by omega) hi hn).mp q))]
      by_cases c5 : j + n ≤ (gs σ t).2.length
      · rw [if_pos ((sb_le (by omega) hj hn).mpr c5), if_pos (show (¬ nI n < 0 ∧ ¬ nI i < 0 ∧ i + n ≤ (gs σ s).2.length) ∧ ¬ nI n < 0 ∧ ¬ nI j < 0 ∧ j + n ≤ (gs σ t).2.length from ⟨⟨c1, c2, by omega⟩, ⟨c1, c3, c5⟩⟩)]
        have up : (40 * t + j ≤ 40 * s + i ∨ 40 * s + i + n ≤ 40 * t + j) → DoT M (LX11_move_133 N N M 137 (nI s) (nI i) (nI t) (nI j) (nI n) 0 0) (nI n, shS σ t (gs σ t).1 (mvL (gs σ t).2 (gs σ s).2 i j n)) := fun hd => by
          obtain ⟨M2, A2, d1, d2, d3, d4, d5⟩ := T_mvUp (N := N) (s := s) (i := i) (t := t) (j := j) (n := n) (by omega) (by omega) hd N 0 M A k1 (by omega) (by omega)
          exact ⟨M2, d1, ⟨F, A2, d2, T_mvEnd k2 hI (by omega) (by omega) (by omega) c5 d4 (fun p => by rw [d5 p, Nat.add_zero])⟩, d3⟩
        have dn : 40 * s + i ≤ 40 * t + j → DoT M (LX11_move_133 N N M 137 (nI s) (nI i) (nI t) (nI j) (nI n) 1 0) (nI n, shS σ t (gs σ t).1 (mvL (gs σ t).2 (gs σ s).2 i j n)) := fun hd => by
          obtain ⟨M2, A2, d1, d2, d3, d4, d5⟩ := T_mvDn (N := N) (s := s) (i := i) (t := t) (j := j) (n := n) (by omega) (by omega) hd N 0 M A k1 (by omega) (by omega)
          exact ⟨M2, d1, ⟨F, A2, d2, T_mvEnd k2 hI (by omega) (by omega) (by omega) c5 d4 (fun p => by rw [d5 p, Nat.sub_zero])⟩, d3⟩
        by_cases c6 : nI s = nI t
        · rw [if_pos c6]
          have c6' := (nI_eq (by omega) (by omega)).mp c6
          by_cases c7 : nI j ≤ nI i
          · rw [if_pos c7]
            refine up (Or.inl ?_)
            have : ¬ i < j := fun q => nI_ge q hj c7
            omega
          · rw [if_neg c7]
            refine dn ?_
            have : ¬ j ≤ i := fun q => c7 (nI_le q hi)
            omega
        · rw [if_neg c6]
          have c6' : s ≠ t := fun q => c6 (by rw [q])
          refine up ?_
          omega
      · rw [if_neg (fun q => c5 ((sb_le (by omega) hj hn).mp q)), if_neg (fun q => c5 q.2.2.2)]; exact J
    · rw [if_neg z3, if_neg z3]
      exact DoT.er h hI.2.2.1 5 rfl (by decide)
  · rw [if_neg g]
    by_cases g1 : wi s 0 3
    · rw [if_pos g1, if_neg (fun q => g ⟨g1, q⟩)]; exact J
    · rw [if_neg g1]; exact J
