/-! lowest terms -/
theorem lN_0 : lN 0 = 0 := by decide
theorem lg0 {a : Nat} (h : a < 2 ^ 63) : lg_cmp (lN a) 0 = 0 ↔ a = 0 := by
  rw [lg_cmp_eq, ← lN_0, pk_lEQ h (by decide)]
theorem mJ_n {a b : Nat} (ha : a < 2 ^ 63) (h0 : 0 < b) (hb : b < 2 ^ 63) : mJ (lN a) (lN b) = some (lN (a % b)) := by
  unfold mJ
  rw [if_neg (fun e => by rw [← lN_0, pk_lEQ hb (by decide)] at e; omega), pk_lRem ha h0 hb]
theorem eu_half {a b : Nat} (h0 : 0 < a % b) (hb : 0 < b) : 2 * (b % (a % b)) < b := by
  have h1 := Nat.mod_lt a hb
  have h2 := Nat.mod_lt b h0
  have h3 := Nat.div_add_mod b (a % b)
  have h4 : 1 ≤ b / (a % b) := (Nat.one_le_div_iff h0).mpr (by omega)
  have h5 : (a % b) * 1 ≤ (a % b) * (b / (a % b)) := Nat.mul_le_mul_left _ h4
  omega
theorem C_gcdL {N : Nat} {M : Mm} : ∀ (n a b i f : Nat), b < 2 ^ n → a < 2 ^ 63 → b < 2 ^ 63 → i + 2 * n + 1 ≤ 200 → 2 * n + 1 < f → LX10_greatestShared_9 N f M (lN a) (lN b) (nI i) = some (lN (Nat.gcd a b)) := by
  have st : ∀ (a b i f : Nat), a < 2 ^ 63 → b < 2 ^ 63 → i < 200 → LX10_greatestShared_9 N (f + 1) M (lN a) (lN b) (nI i) = if b = 0 then some (lN a) else LX10_greatestShared_9 N f M (lN b) (lN (a % b)) (nI (i + 1)) := by
    intro a b i f ha hb hi
    show BX10_greatestShared_9 N (LX10_greatestShared_9 N f) M _ _ _ = _
    unfold BX10_greatestShared_9
    rw [if_neg (show ¬ (200 : Int32) ≤ nI i from nI_ge (b := 200) hi (by decide))]
    by_cases z : b = 0
    · rw [if_pos ((lg0 hb).mpr z), if_pos z]
    · rw [if_neg (fun q => z ((lg0 hb).mp q)), if_neg z, mJ_n ha (by omega) hb, nI_1]
      rfl
  intro n
  induction n with
  | zero =>
    intro a b i f h1 ha hb hi hf
    obtain ⟨f, rfl⟩ : ∃ g, f = g + 1 := ⟨f - 1, by omega⟩
    have e : b = 0 := by omega
    subst e
    rw [st a 0 i f ha hb (by omega), if_pos rfl, Nat.gcd_zero_right]
  | succ n ih =>
    intro a b i f h1 ha hb hi hf
    obtain ⟨f, rfl⟩ : ∃ g, f = g + 2 := ⟨f - 2, by omega⟩
    rw [st a b i (f + 1) ha hb (by omega)]
    by_cases z : b = 0
    · subst z
      rw [if_pos rfl, Nat.gcd_zero_right]
    · rw [if_neg z]
      have m1 := Nat.mod_lt a (show 0 < b by omega)
      rw [st b (a % b) (i + 1) f hb (by omega) (by omega), Nat.gcd_comm a b, Nat.gcd_rec b a, Nat.gcd_comm]
      by_cases y : a % b = 0
      · rw [if_pos y, y, Nat.gcd_zero_right]
      · rw [if_neg y]
        have m2 := eu_half (a := a) (b := b) (by omega) (by omega)
        rw [ih (a % b) (b % (a % b)) (i + 1 + 1) f (by rw [Nat.pow_succ] at h1; omega) (by omega) (by omega) (by omega) (by omega)]
        rw [Nat.gcd_comm b (a % b), Nat.gcd_rec (a % b) b, Nat.gcd_comm (b % (a % b))]
theorem T_gcdL {N : Nat} {M : Mm} : ∀ (n a b f : Nat), b < 2 ^ n → a < 2 ^ 63 → b < 2 ^ 63 → 2 * n + 1 < f → LX11_common_6 N f M (lN a) (lN b) = some (lN (Nat.gcd a b)) := by
  have st : ∀ (a b f : Nat), a < 2 ^ 63 → b < 2 ^ 63 → LX11_common_6 N (f + 1) M (lN a) (lN b) = if b = 0 then some (lN a) else LX11_common_6 N f M (lN b) (lN (a % b)) := by
    intro a b f ha hb
    show BX11_common_6 N (LX11_common_6 N f) M _ _ = _
    unfold BX11_common_6
    by_cases z : b = 0
    · rw [if_pos ((lg0 hb).mpr z), if_pos z]
    · rw [if_neg (fun q => z ((lg0 hb).mp q)), if_neg z, mJ_n ha (by omega) hb]
      rfl
  intro n
  induction n with
  | zero =>
    intro a b f h1 ha hb hf
    obtain ⟨f, rfl⟩ : ∃ g, f = g + 1 := ⟨f - 1, by omega⟩
    have e : b = 0 := by omega
    subst e
    rw [st a 0 f ha hb, if_pos rfl, Nat.gcd_zero_right]
  | succ n ih =>
    intro a b f h1 ha hb hf
    obtain ⟨f, rfl⟩ : ∃ g, f = g + 2 := ⟨f - 2, by omega⟩
    rw [st a b (f + 1) ha hb]
    by_cases z : b = 0
    · subst z
      rw [if_pos rfl, Nat.gcd_zero_right]
    · rw [if_neg z]
      have m1 := Nat.mod_lt a (show 0 < b by omega)
      rw [st b (a % b) f hb (by omega), Nat.gcd_comm a b, Nat.gcd_rec b a, Nat.gcd_comm]
      by_cases y : a % b = 0
      · rw [if_pos y, y, Nat.gcd_zero_right]
      · rw [if_neg y]
        have m2 := eu_half (a := a) (b := b) (by omega) (by omega)
        rw [ih (a % b) (b % (a % b)) f (by rw [Nat.pow_succ] at h1; omega) (by omega) (by omega) (by omega)]
        rw [Nat.gcd_comm b (a % b), Nat.gcd_rec (a % b) b, Nat.gcd_comm (b % (a % b))]
def lowT (a b : Nat) (p : Int32) : Nat := if p = 0 then a / Nat.gcd a b else b / Nat.gcd a b
theorem dJ_n {a b : Nat} (ha : a < 2 ^ 63) (h0 : 0 < b) (hb : b < 2 ^ 63) : dJ (lN a) (lN b) = some (lN (a / b)) := by
  unfold dJ
  rw [if_neg (fun e => by rw [← lN_0, pk_lEQ hb (by decide)] at e; omega), pk_lDiv ha h0 hb]
theorem C_low {N : Nat} {M : Mm} (hN : 2000 ≤ N) {a b : Nat} (ha : a < 2 ^ 63) (hb : b < 2 ^ 63) (h0 : 0 < b) (p : Int32) : fX10_inLowestTerms N M (lN a) (lN b) p = some (lN (lowT a b p)) := by
  unfold fX10_inLowestTerms lowT
  by_cases z : a = 0
  · subst z
    rw [if_pos ((lg0 ha).mpr rfl), Nat.gcd_zero_left, Nat.zero_div, Nat.div_self h0]
    unfold jX10_inLowestTerms_15
    rw [if_pos (by decide)]
    by_cases y : p = 0
    · rw [if_pos y, if_pos y]; rfl
    · rw [if_neg y, if_neg y]; rfl
  · rw [if_neg (fun q => z ((lg0 ha).mp q))]
    have g0 : 0 < Nat.gcd a b := Nat.gcd_pos_of_pos_right _ h0
    have g1 : Nat.gcd a b ≤ b := Nat.gcd_le_right _ h0
    have q := C_gcdL (N := N) (M := M) 63 a b 0 N hb ha hb (by omega) (by omega)
    unfold fX10_greatestShared
    rw [show LX10_greatestShared_9 N N M (lN a) (lN b) 0 = some (lN (Nat.gcd a b)) from q]
    simp only [Option.bind_some]
    unfold jX10_inLowestTerms_15
    rw [if_neg (fun q => by have := (lg0 (show Nat.gcd a b < 2 ^ 63 by omega)).mp q; omega)]
    by_cases y : p = 0
    · rw [if_pos y, if_pos y, dJ_n ha g0 (by omega)]; rfl
    · rw [if_neg y, if_neg y, dJ_n hb g0 (by omega)]; rfl
theorem T_part {N : Nat} {M : Mm} (hN : 2000 ≤ N) {a b : Nat} (ha : a < 2 ^ 31) (hb : b < 2 ^ 31) (h0 : 0 < b) (p : Int32) : fX11_part N M (nI a) (nI b) p = some (nI (lowT a b p)) := by
  have g0 : 0 < Nat.gcd a b := Nat.gcd_pos_of_pos_right _ h0
  have g1 : Nat.gcd a b ≤ b := Nat.gcd_le_right _ h0
  have q := T_gcdL (N := N) (M := M) 63 a b N (by omega) (by omega) (by omega) (by omega)
  unfold fX11_part fX11_common lowT
  rw [nI_l ha, nI_l hb, q]
  simp only [Option.bind_some, lN_i]
  have di : ∀ x, x < 2 ^ 31 → dI (nI x) (nI (Nat.gcd a b)) = some (nI (x / Nat.gcd a b)) := by
    intro x hx
    unfold dI
    rw [if_neg (nI_ne0 g0 (by omega)), pk_div hx g0 (by omega)]
  by_cases y : p = 0
  · rw [if_pos y, if_pos y, di a ha]; rfl
  · rw [if_neg y, if_neg y, di b hb]; rfl
/-! slides -/
def mtS (S : St) (c : List Int32) (l : Int32) (s : Nat) : Int32 := nI (mt S (cL c 2) l (cL c 4) (nI s * cL c 5))
def tgA (S : St) (c : List Int32) (l : Int32) : Nat → Int32
  | 0 => 0
  | s + 1 => tgA S c l s + mtS S c l (s + 1)
def slC (g : Nat → Int32) (t : Int32) : Nat → Nat
  | 0 => 0
  | i + 1 => if g (i + 1) < t then slC g t i else slC g t i + 1
theorem slC_le (g : Nat → Int32) (t : Int32) : ∀ i, slC g t i ≤ i
  | 0 => Nat.le_refl 0
  | i + 1 => by
    have h := slC_le g t i
    unfold slC
    by_cases z : g (i + 1) < t
    · rw [if_pos z]; omega
    · rw [if_neg z]; omega
theorem RelC.sl {M M' : Mm} {σ : Sg} {u v : Int32} (h : RelC M σ) (o : Of (fun k => 124 ≤ k ∧ k < 129) M M') (g1 : M'[124]? = some (.inr (5, [.ref 125, .ref 127, .int u, .int v]))) (g2 : Rx M' 125 41) (g3 : Rx M' 127 41) : RelC M' σ := by
  obtain ⟨⟨h1, h2, h3, h4, h5⟩, h6, ⟨-, h8, h9⟩, ⟨j, pl, h10⟩, h11, h12⟩ := h.2.2.2.2.2.2.1
  refine h.scr (o.sm (fun k a b => by omega)) (o.sm (fun k a b => by omega)) (o.dy (fun k q => by omega)) ⟨⟨by rw [o.2 74 (by omega)]; exact h1, h2.mv (o.sm (fun k a b => by omega)), h3.mv (o.sm (fun k a b => by omega)), h4.mv (o.sm (fun k a b => by omega)), h5.mv (o.sm (fun k a b => by omega))⟩, h6.mv (o.sm (fun k a b => by omega)), ⟨⟨u, v, g1⟩, g2, g3⟩, ⟨j, pl, by rw [o.2 132 (by omega)]; exact h10⟩, h11.mv (o.sm (fun k a b => by omega)), h12.mv (o.sm (fun k a b => by omega))⟩ (by rw [o.1]; exact h.2.2.2.2.2.2.2)
theorem RelC.slA {M : Mm} {σ : Sg} (h : RelC M σ) : (∃ u v, M[124]? = some (.inr (5, [.ref 125, .ref 127, .int u, .int v]))) ∧ Rx M 125 41 ∧ Rx M 127 41 := h.2.2.2.2.2.2.1.2.2.1
/-- what taking leaves: rows of the pair heard, meetings, their sum, m -/
def SlT (M : Mm) (S : St) (c : List Int32) (l : Int32) (m i : Nat) : Prop := M[124]? = some (.inr (5, [.ref 125, .ref 127, .int (tgA S c l i), .int (nI m)])) ∧ Rw M 125 41 ((List.range (i + 1)).map (mtS S c l))
theorem rng_s (f : Nat → Int32) (n : Nat) : (List.range (n + 1)).map f = (List.range n).map f ++ [f n] := by
  rw [List.range_succ, List.map_append]; rfl
theorem C_takeL {N : Nat} {σ : Sg} {q m : Nat} {c : List Int32} {l : Int32} (hI : Ig σ) (hN : 2000 ≤ N) (hm : m ≤ 40) (hw : wi (cL c 4) 0 50) (hD : wi (cL c 5) 1 999) : ∀ (k i f : Nat) (M : Mm), i + k = m → k < f → PrC M σ q c l → SlT M (g0 σ) c l m i → ∃ M', LX5_take_43 N f M 124 74 q (nI (i + 1)) = some M' ∧ PrC M' σ q c l ∧ SlT M' (g0 σ) c l m m ∧ Of (fun k => (k = 105 ∨ k = 106) ∨ (124 ≤ k ∧ k < 127)) M M' := by
  intro k
  induction k with
  | zero =>
    intro i f M hk hf h g
    obtain ⟨f, rfl⟩ : ∃ g, f = g + 1 := ⟨f - 1, by omega⟩
    have e : i = m := by omega
    subst e
    have i3 : gI M 5 124 3 = some (nI i) := gI_ok g.1 rfl
    refine ⟨M, ?_, h, g, Of.rf⟩
    show BX5_take_43 N (LX5_take_43 N f) M 124 74 q _ = _
    unfold BX5_take_43
    simp only [i3, Option.bind_some]
    rw [if_pos (nI_lt (by omega) (by omega))]
  | succ k ih =>
    intro i f M hk hf h g
    obtain ⟨f, rfl⟩ : ∃ g, f = g + 1 := ⟨f - 1, by omega⟩
    have i3 : gI M 5 124 3 = some (nI m) := gI_ok g.1 rfl
    obtain ⟨M1, a1, a2, a3⟩ := C_mtC (N := N) (w := cL c 4) (d := nI (i + 1) * cL c 5) h hI hN hw (okD_mul hD (by omega))
    have g1 : M1[124]? = some (.inr (5, [.ref 125, .ref 127, .int (tgA (g0 σ) c l i), .int (nI m)])) := by rw [a3.2 _ (by omega)]; exact g.1
    have q1 : gQ M1 5 124 0 = some 125 := gQ_ok g1 rfl
    obtain ⟨M2, b1, b2, b3⟩ := R_add (g.2.of a3 (by omega) (by omega)) (mtS (g0 σ) c l (i + 1)) (by simp; omega)
    rw [← rng_s] at b2
    have g2 : M2[124]? = some (.inr (5, [.ref 125, .ref 127, .int (tgA (g0 σ) c l i), .int (nI m)])) := by rw [b3.2 _ (by omega)]; exact g1
    have i2 : gI M2 5 124 2 = some (tgA (g0 σ) c l i) := gI_ok g2 rfl
    have p3 : pF M2 5 124 2 (.int (tgA (g0 σ) c l i + mtS (g0 σ) c l (i + 1))) = some (M2.set 124 (.inr (5, [.ref 125, .ref 127, .int (tgA (g0 σ) c l (i + 1)), .int (nI m)]))) := by
      rw [pF_ok g2 (k := 2) (Nat.le_of_ble_eq_true rfl)]; rfl
    have o4 : Of (fun k => k = 124) M2 (M2.set 124 (.inr (5, [.ref 125, .ref 127, .int (tgA (g0 σ) c l (i + 1)), .int (nI m)]))) := Of.set rfl
    generalize hM3 : M2.set 124 (.inr (5, [.ref 125, .ref 127, .int (tgA (g0 σ) c l (i + 1)), .int (nI m)])) = M3 at p3 o4
    have g3 : M3[124]? = some (.inr (5, [.ref 125, .ref 127, .int (tgA (g0 σ) c l (i + 1)), .int (nI m)])) := by
      rw [← hM3]
      have := lt_of_at g2
      simp [this]
    have w3 := b2.of o4 (by omega) (by omega)
    have oo : Of (fun k => 124 ≤ k ∧ k < 129) M1 M3 := (b3.mono (fun k q => by omega)).trans (o4.mono (fun k q => by omega))
    have oo2 : Of (fun k => 124 ≤ k ∧ k < 127) M1 M3 := (b3.mono (fun k q => by omega)).trans (o4.mono (fun k q => by omega))
    have pr3 : PrC M3 σ q c l := ⟨a2.1.sl oo g3 ⟨_, w3⟩ (a2.1.slA.2.2.of oo2 (by omega) (by omega)), a2.2.1.of oo (fun k q => by omega), (oo.dy (fun k q => by omega)).2 _ _ a2.2.2⟩
    obtain ⟨M4, d1, d2, d3, d4⟩ := ih (i + 1) f M3 (by omega) (by omega) pr3 ⟨g3, w3⟩
    refine ⟨M4, ?_, d2, d3, ((a3.mono (fun k q => by omega)).trans (oo2.mono (fun k q => by omega))).trans d4⟩
    show BX5_take_43 N (LX5_take_43 N f) M 124 74 q _ = _
    unfold BX5_take_43
    simp only [i3, h.2.2.i (show 4 < 6 by decide), h.2.2.i (show 5 < 6 by decide), Option.bind_some, nI_1]
    rw [if_neg (nI_nlt (by omega) (by omega)), a1, bd2_s]
    simp only [q1, Option.bind_some]
    rw [show nI (mt (g0 σ) (cL c 2) l (cL c 4) (nI (i + 1) * cL c 5)) = mtS (g0 σ) c l (i + 1) from rfl, b1, bd2_s]
    simp only [i2, p3, Option.bind_some]
    exact d1
theorem C_take {N : Nat} {M : Mm} {σ : Sg} {q m : Nat} {c : List Int32} (h : RelC M σ) (hI : Ig σ) (hN : 2000 ≤ N) (hp : HrP M (g0 σ) (cL c 2 / 10) (rmI (cL c 2) 10)) (hq : CntAt M q c) (hm : m ≤ 40) (hw : wi (cL c 4) 0 50) (hD : wi (cL c 5) 1 999) (l : Int32) : ∃ M', fX5_take N M 124 74 q l (nI m) = some M' ∧ RelC M' σ ∧ HrP M' (g0 σ) (cL c 2 / 10) (rmI (cL c 2) 10) ∧ CntAt M' q c ∧ SlT M' (g0 σ) c l m m ∧ Of (fun k => 84 ≤ k ∧ k < 127) M M' ∧ Sm 127 129 M M' ∧ Sm 0 74 M M' := by
  obtain ⟨M1, a1, a2, a3, a4, a5⟩ := C_drawP (N := N) h hI hN hp l
  obtain ⟨⟨u, v, s1⟩, s2, s3⟩ := a2.slA
  have q1 : CntAt M1 q c := (a5.dy (fun k q => by omega)).2 _ _ hq
  have p2 : pF M1 5 124 3 (.int (nI m)) = some (M1.set 124 (.inr (5, [.ref 125, .ref 127, .int u, .int (nI m)]))) := by
    rw [pF_ok s1 (k := 3) (Nat.le_of_ble_eq_true rfl)]; rfl
  have o2 : Of (fun k => k = 124) M1 (M1.set 124 (.inr (5, [.ref 125, .ref 127, .int u, .int (nI m)]))) := Of.set rfl
  generalize hM2 : M1.set 124 (.inr (5, [.ref 125, .ref 127, .int u, .int (nI m)])) = M2 at p2 o2
  have g2 : M2[124]? = some (.inr (5, [.ref 125, .ref 127, .int u, .int (nI m)])) := by
    rw [← hM2]
    have := lt_of_at s1
    simp [this]
  have e2 : gQ M2 5 124 0 = some 125 := gQ_ok g2 rfl
  obtain ⟨x2, s2'⟩ := s2.of o2 (by omega) (by omega)
  obtain ⟨M3, b1, b2, b3⟩ := R_clear s2'
  have g3 : M3[124]? = some (.inr (5, [.ref 125, .ref 127, .int u, .int (nI m)])) := by rw [b3.2 _ (by omega)]; exact g2
  have e3 : gQ M3 5 124 0 = some 125 := gQ_ok g3 rfl
  have o13 : Of (fun k => 124 ≤ k ∧ k < 127) M1 M3 := (o2.mono (fun k q => by omega)).trans (b3.mono (fun k q => by omega))
  have r3 : RelC M3 σ := a2.sl (o13.mono (fun k q => by omega)) g3 ⟨_, b2⟩ (s3.of o13 (by omega) (by omega))
  have q3 : CntAt M3 q c := (o13.dy (fun k q => by omega)).2 _ _ q1
  have pr3 : PrC M3 σ q c l := ⟨r3, a4.of o13 (fun k q => by omega), q3⟩
  obtain ⟨M4, c1, c2, c3⟩ := C_mtC (N := N) (w := cL c 4) (d := 0) pr3 hI hN hw okD_0
  have z0 : nI (mt (g0 σ) (cL c 2) l (cL c 4) 0) = mtS (g0 σ) c l 0 := by
    unfold mtS
    rw [nI_0, Int32.zero_mul]
  obtain ⟨M5, d1, d2, d3⟩ := R_add (b2.of c3 (by omega) (by omega)) (mtS (g0 σ) c l 0) (by simp)
  have g5 : M5[124]? = some (.inr (5, [.ref 125, .ref 127, .int u, .int (nI m)])) := by rw [d3.2 _ (by omega), c3.2 _ (by omega)]; exact g3
  have p6 : pF M5 5 124 2 (.int 0) = some (M5.set 124 (.inr (5, [.ref 125, .ref 127, .int 0, .int (nI m)]))) := by
    rw [pF_ok g5 (k := 2) (Nat.le_of_ble_eq_true rfl)]; rfl
  have o6 : Of (fun k => k = 124) M5 (M5.set 124 (.inr (5, [.ref 125, .ref 127, .int 0, .int (nI m)]))) := Of.set rfl
  generalize hM6 : M5.set 124 (.inr (5, [.ref 125, .ref 127, .int 0, .int (nI m)])) = M6 at p6 o6
  have g6 : M6[124]? = some (.inr (5, [.ref 125, .ref 127, .int 0, .int (nI m)])) := by
    rw [← hM6]
    have := lt_of_at g5
    simp [this]
  have o46 : Of (fun k => 124 ≤ k ∧ k < 127) M4 M6 := (d3.mono (fun k q => by omega)).trans (o6.mono (fun k q => by omega))
  have w6 := d2.of o6 (by omega) (by omega)
  have pr6 : PrC M6 σ q c l := ⟨c2.1.sl (o46.mono (fun k q => by omega)) g6 ⟨_, w6⟩ (c2.1.slA.2.2.of o46 (by omega) (by omega)), c2.2.1.of o46 (fun k q => by omega), (o46.dy (fun k q => by omega)).2 _ _ c2.2.2⟩
  obtain ⟨M7, f1, f2, f3, f4⟩ := C_takeL (N := N) (q := q) (m := m) (c := c) (l := l) hI hN hm hw hD m 0 N M6 (by omega) (by omega) pr6 ⟨g6, w6⟩
  have oA : Of (fun k => (84 ≤ k ∧ k < 88) ∨ (99 ≤ k ∧ k < 103) ∨ (105 ≤ k ∧ k < 107) ∨ (124 ≤ k ∧ k < 127)) M M7 := ((((a5.mono (fun k q => by omega)).trans (o13.mono (fun k q => by omega))).trans (c3.mono (fun k q => by omega))).trans (o46.mono (fun k q => by omega))).trans (f4.mono (fun k q => by omega))
  have oB : Of (fun k => (105 ≤ k ∧ k < 107) ∨ (124 ≤ k ∧ k < 127)) M1 M7 := (((o13.mono (fun k q => by omega)).trans (c3.mono (fun k q => by omega))).trans (o46.mono (fun k q => by omega))).trans (f4.mono (fun k q => by omega))
  refine ⟨M7, ?_, f2.1, a3.of oB (fun k q => by omega), f2.2.2, f3, oA.mono (fun k q => by omega), oA.sm (fun k x y => by omega), oA.sm (fun k x y => by omega)⟩
  have e0 : gC M 5 124 = some 124 := by
    obtain ⟨⟨u', v', s1'⟩, -, -⟩ := h.slA
    exact gC_ok s1'
  simp only [fX5_take, e0, a1, p2, e2, b1, e3, q3.i (show 4 < 6 by decide), Option.bind_some]
  rw [c1, bd2_s, z0, d1, bd2_s, p6]
  exact f1
theorem C_slidL {N : Nat} {M : Mm} {S : St} {c : List Int32} {l t : Int32} {m : Nat} (hm : m ≤ 40) (h : SlT M S c l m m) : ∀ (k i f : Nat), i + k = m → k < f → LX5_slidWith_4 N f M 124 t (nI (slC (mtS S c l) t i)) (nI (i + 1)) = some (nI (slC (mtS S c l) t m)) := by
  have i3 : gI M 5 124 3 = some (nI m) := gI_ok h.1 rfl
  have q0 : gQ M 5 124 0 = some 125 := gQ_ok h.1 rfl
  intro k
  induction k with
  | zero =>
    intro i f hk hf
    obtain ⟨f, rfl⟩ : ∃ g, f = g + 1 := ⟨f - 1, by omega⟩
    have e : i = m := by omega
    subst e
    show BX5_slidWith_4 N (LX5_slidWith_4 N f) M 124 _ _ _ = _
    unfold BX5_slidWith_4
    simp only [i3, Option.bind_some]
    rw [if_pos (nI_lt (by omega) (by omega))]
  | succ k ih =>
    intro i f hk hf
    obtain ⟨f, rfl⟩ : ∃ g, f = g + 1 := ⟨f - 1, by omega⟩
    have q := ih (i + 1) f (by omega) (by omega)
    have ei : ((List.range (m + 1)).map (mtS S c l)).getD (i + 1) 0 = mtS S c l (i + 1) := by
      rw [List.getD_eq_getElem?_getD, List.getElem?_map, List.getElem?_range (by omega)]; rfl
    show BX5_slidWith_4 N (LX5_slidWith_4 N f) M 124 _ _ _ = _
    unfold BX5_slidWith_4
    simp only [i3, q0, R_at h.2, lg_nI (show i + 1 < 2 ^ 31 by omega), ei, Option.bind_some, nI_1]
    rw [if_neg (nI_nlt (by omega) (by omega))]
    rw [show slC (mtS S c l) t (i + 1) = if mtS S c l (i + 1) < t then slC (mtS S c l) t i else slC (mtS S c l) t i + 1 from rfl] at q
    by_cases z : mtS S c l (i + 1) < t
    · rw [if_pos z]
      rw [if_pos z] at q
      exact q
    · rw [if_neg z]
      rw [if_neg z] at q
      exact q
theorem C_slid {N : Nat} {M : Mm} {S : St} {c : List Int32} {l : Int32} {m : Nat} (hm : m ≤ 40) (hN : 2000 ≤ N) (h : SlT M S c l m m) (t : Int32) : fX5_slidWith N M 124 t = some (nI (slC (mtS S c l) t m)) := by
  have q := C_slidL (N := N) (t := t) hm h m 0 N (by omega) (by omega)
  simp only [fX5_slidWith, gC_ok h.1, Option.bind_some]
  exact q
