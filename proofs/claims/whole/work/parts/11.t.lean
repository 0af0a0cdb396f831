/-! chance, ahead -/
theorem mtS_0 (S : St) (c : List Int32) : mtS S c (cL c 3) 0 = plV S c := by
  unfold mtS plV
  rw [nI_0, Int32.zero_mul]
def chV (S : St) (c : List Int32) (m : Nat) (p : Int32) : Int32 := nI (lowT (slC (mtS S c (cL c 3)) (mtS S c (cL c 3) 0) m) m p)
abbrev okA (S : St) (a m : Int32) : Prop := isK S a ∧ wi m 1 40
def sp_chance (σ : Sg) (a m p : Int32) : An := if okA (g0 σ) a m ∧ wi p 0 1 then (chV (g0 σ) ((sk (g0 σ)).getD a.toNatClampNeg []) m.toNatClampNeg p, σ) else er σ 1
theorem I_chance {σ : Sg} (h : Ig σ) (a m p : Int32) : Ig (sp_chance σ a m p).2 := by
  unfold sp_chance
  by_cases g : okA (g0 σ) a m ∧ wi p 0 1
  · rw [if_pos g]; exact h
  · rw [if_neg g]; exact h.er 1
theorem C_tkA {N : Nat} {M : Mm} {σ : Sg} (h : RelC M σ) (hI : Ig σ) (hN : 2000 ≤ N) {j m : Nat} (hj : j < (sk (g0 σ)).length) (hm : m ≤ 40) : ∃ q M1 M2, fX6_countingAt M 1 (nI j) = some (some q) ∧ gI M 0 q 2 = some (cL ((sk (g0 σ)).getD j []) 2) ∧ fX1_hear N M 74 1 (cL ((sk (g0 σ)).getD j []) 2) = some M1 ∧ RelC M1 σ ∧ gI M1 0 q 3 = some (cL ((sk (g0 σ)).getD j []) 3) ∧ fX5_take N M1 124 74 q (cL ((sk (g0 σ)).getD j []) 3) (nI m) = some M2 ∧ RelC M2 σ ∧ SlT M2 (g0 σ) ((sk (g0 σ)).getD j []) (cL ((sk (g0 σ)).getD j []) 3) m m ∧ FrC M M2 := by
  obtain ⟨q, z1, z2⟩ := C_cnt h hI hj
  obtain ⟨-, -, k1, k2, k3, k4, k5⟩ := hI.1.2.2.2.2.2.2.2 j hj
  generalize (sk (g0 σ)).getD j [] = c at z2 k1 k2 k3 k4 k5 ⊢
  have hq := z2 M h Sm.rf
  obtain ⟨M1, a1, a2, a3, a4, a5⟩ := C_hearQ (N := N) h hI hN (okP_isP hI.1 k2)
  have hq1 := z2 M1 a2 a5
  obtain ⟨M2, b1, b2, b3, b4, b5, b6, b7⟩ := C_take (N := N) (q := q) (m := m) a2 hI hN a3 hq1 hm k4 k5 (cL c 3)
  exact ⟨q, M1, M2, z1, hq.i (show 2 < 6 by decide), a1, a2, hq1.i (show 3 < 6 by decide), b1, b2, b5, a4.trans (b6.frC (fun k q => by omega))⟩
theorem C_chance {N : Nat} {M : Mm} {σ : Sg} (h : RelC M σ) (hI : Ig σ) (hN : 2000 ≤ N) (a m p : Int32) : DoC M (fX10_chance N M 0 a m p) (sp_chance σ a m p) := by
  have J := DoC.er h (a := 1) 1 rfl (by decide)
  have hk : (sk (g0 σ)).length ≤ 12 := hI.1.K
  unfold fX10_chance sp_chance jX10_chance_29
  simp only [h.c, h.q0, h.q5, Option.bind_some]
  by_cases g : isK (g0 σ) a
  · obtain ⟨j, hj, rfl⟩ := (wi_n (by omega)).mp g
    rw [nI_clamp (show j < 2 ^ 31 by omega)]
    by_cases g2 : wi m 1 40
    · obtain ⟨x, x0, x1, rfl⟩ := wi_ix1 (n := 40) (by decide) rfl g2
      rw [nI_clamp (show x < 2 ^ 31 by omega)]
      obtain ⟨q, M1, M2, z1, z2, a1, a2, a3, b1, b2, b3, b4⟩ := C_tkA (N := N) h hI hN hj x1
      rw [z1]
      show DoC M ((fX10_isSlides M (nI x)).bind _) _
      simp only [C_isSlides, C_isPart, Option.bind_some, gd]
      rw [if_pos g2]
      by_cases g3 : wi p 0 1
      · rw [if_pos g3, if_pos ⟨⟨g, g2⟩, g3⟩]
        have e0 : ((List.range (x + 1)).map (mtS (g0 σ) ((sk (g0 σ)).getD j []) (cL ((sk (g0 σ)).getD j []) 3))).getD 0 0 = mtS (g0 σ) ((sk (g0 σ)).getD j []) (cL ((sk (g0 σ)).getD j []) 3) 0 := by
          rw [List.getD_eq_getElem?_getD, List.getElem?_map, List.getElem?_range (by omega)]; rfl
        have e1 : fX5_noFewer N M2 124 = some (nI (slC (mtS (g0 σ) ((sk (g0 σ)).getD j []) (cL ((sk (g0 σ)).getD j []) 3)) (mtS (g0 σ) ((sk (g0 σ)).getD j []) (cL ((sk (g0 σ)).getD j []) 3) 0) x)) := by
          have q0 : gQ M2 5 124 0 = some 125 := gQ_ok b3.1 rfl
          simp only [fX5_noFewer, gC_ok b3.1, q0, R_at b3.2, Option.bind_some]
          rw [show lg ((List.range (x + 1)).map (mtS (g0 σ) ((sk (g0 σ)).getD j []) (cL ((sk (g0 σ)).getD j []) 3))) 0 = mtS (g0 σ) ((sk (g0 σ)).getD j []) (cL ((sk (g0 σ)).getD j []) 3) 0 from (lg_nI (k := 0) (by decide)).trans e0, C_slid x1 hN b3]
          rfl
        have le := slC_le (mtS (g0 σ) ((sk (g0 σ)).getD j []) (cL ((sk (g0 σ)).getD j []) 3)) (mtS (g0 σ) ((sk (g0 σ)).getD j []) (cL ((sk (g0 σ)).getD j []) 3) 0) x
        simp only [z2, a1, a2.q7, a2.q5, a3, b1, b2.q7, e1, Option.bind_some]
        rw [nI_l (by omega), nI_l (by omega), C_low hN (by omega) (by omega) (by omega)]
        simp only [Option.bind_some, lN_i]
        exact ⟨M2, rfl, b2, b4⟩
      · rw [if_neg g3, if_neg (fun q => g3 q.2)]; exact J
    · obtain ⟨q, z1, -⟩ := C_cnt h hI hj
      rw [z1, if_neg (fun q => g2 q.1.2)]
      show DoC M ((fX10_isSlides M m).bind _) _
      simp only [C_isSlides, Option.bind_some, gd]
      rw [if_neg g2]; exact J
  · rw [if_neg (fun q => g q.1.1), (C_countingAt h hI a).1 g]
    exact J
theorem T_isAsked {M : Mm} {F : Nat → Int32} {A : Nat → Nat → Int32} {σ : Sg} (h : TwAt M F A) (r : TwR F A σ) (a m : Int32) : fX11_isAsked M 137 a m = some (if okA (g0 σ) a m then 1 else 0) := by
  simp only [fX11_isAsked, T_c h, T_isCounting h r, show fX11_in M m.toInt64 1 40 = some (if wi m 1 40 then 1 else 0) from T_in M (a := 1) (b := 40) (by decide) (by decide), Option.bind_some, gd]
  by_cases g1 : isK (g0 σ) a
  · rw [if_pos g1]
    by_cases g2 : wi m 1 40
    · rw [if_pos g2, if_pos (show okA (g0 σ) a m from ⟨g1, g2⟩)]
    · rw [if_neg g2, if_neg (show ¬ okA (g0 σ) a m from fun q => g2 q.2)]
  · rw [if_neg g1, if_neg (show ¬ okA (g0 σ) a m from fun q => g1 q.1)]
theorem T_chanceL {N : Nat} {M : Mm} {F : Nat → Int32} {A : Nat → Nat → Int32} {σ : Sg} (h : TwAt M F A) (r : TwR F A σ) (hd : RdA A (g0 σ) (sr (g0 σ) 2).length) (hI : Ig σ) (hN : 2000 ≤ N) {j m : Nat} (hj : j < (sk (g0 σ)).length) (hm : m ≤ 40) (hm0 : 1 ≤ m) {p : Int32} : ∀ (k i f : Nat), i + k = m → k < f → LX11_chance_42 N f M 137 (nI j) (nI m) p (mtS (g0 σ) ((sk (g0 σ)).getD j []) (cL ((sk (g0 σ)).getD j []) 3) 0) (nI (slC (mtS (g0 σ) ((sk (g0 σ)).getD j []) (cL ((sk (g0 σ)).getD j []) 3)) (mtS (g0 σ) ((sk (g0 σ)).getD j []) (cL ((sk (g0 σ)).getD j []) 3) 0) i)) (nI (i + 1)) = some (chV (g0 σ) ((sk (g0 σ)).getD j []) m p, M) := by
  have f2 : fX11_of M 137 (nI j) 2 = some (((sk (g0 σ)).getD j []).getD 3 0) := T_of h r hI.1.K hj (w := 2) (by decide)
  have f4 : fX11_of M 137 (nI j) 4 = some (((sk (g0 σ)).getD j []).getD 5 0) := T_of h r hI.1.K hj (w := 4) (by decide)
  intro k
  induction k with
  | zero =>
    intro i f hk hf
    obtain ⟨f, rfl⟩ : ∃ g, f = g + 1 := ⟨f - 1, by omega⟩
    have e : i = m := by omega
    subst e
    have le := slC_le (mtS (g0 σ) ((sk (g0 σ)).getD j []) (cL ((sk (g0 σ)).getD j []) 3)) (mtS (g0 σ) ((sk (g0 σ)).getD j []) (cL ((sk (g0 σ)).getD j []) 3) 0) i
    show BX11_chance_42 N (LX11_chance_42 N f) M 137 _ _ _ _ _ _ = _
    unfold BX11_chance_42
    rw [if_pos (nI_lt (by omega) (by omega)), T_part hN (by omega) (by omega) (by omega)]
    rfl
  | succ k ih =>
    intro i f hk hf
    obtain ⟨f, rfl⟩ : ∃ g, f = g + 1 := ⟨f - 1, by omega⟩
    have q := ih (i + 1) f (by omega) (by omega)
    show BX11_chance_42 N (LX11_chance_42 N f) M 137 _ _ _ _ _ _ = _
    unfold BX11_chance_42
    simp only [f2, f4, T_slid h r hd hI hN hj, Option.bind_some, nI_1, Int32.add_zero]
    rw [if_neg (nI_nlt (by omega) (by omega))]
    rw [show slC (mtS (g0 σ) ((sk (g0 σ)).getD j []) (cL ((sk (g0 σ)).getD j []) 3)) (mtS (g0 σ) ((sk (g0 σ)).getD j []) (cL ((sk (g0 σ)).getD j []) 3) 0) (i + 1) = if mtS (g0 σ) ((sk (g0 σ)).getD j []) (cL ((sk (g0 σ)).getD j []) 3) (i + 1) < mtS (g0 σ) ((sk (g0 σ)).getD j []) (cL ((sk (g0 σ)).getD j []) 3) 0 then slC (mtS (g0 σ) ((sk (g0 σ)).getD j []) (cL ((sk (g0 σ)).getD j []) 3)) (mtS (g0 σ) ((sk (g0 σ)).getD j []) (cL ((sk (g0 σ)).getD j []) 3) 0) i else slC (mtS (g0 σ) ((sk (g0 σ)).getD j []) (cL ((sk (g0 σ)).getD j []) 3)) (mtS (g0 σ) ((sk (g0 σ)).getD j []) (cL ((sk (g0 σ)).getD j []) 3) 0) i + 1 from rfl] at q
    by_cases z : mtS (g0 σ) ((sk (g0 σ)).getD j []) (cL ((sk (g0 σ)).getD j []) 3) (i + 1) < mtS (g0 σ) ((sk (g0 σ)).getD j []) (cL ((sk (g0 σ)).getD j []) 3) 0
    · rw [if_pos z] at q
      exact (if_pos z).trans q
    · rw [if_neg z] at q
      exact (if_neg z).trans q
theorem T_chance {N : Nat} {M : Mm} {σ : Sg} (h : RelT M σ) (hI : Ig σ) (hN : 2000 ≤ N) (a m p : Int32) : DoT M (fX11_chance N M 137 a m p) (sp_chance σ a m p) := by
  obtain ⟨F, A, k1, k2⟩ := id h
  have J := DoT.er h hI.2.2.1 (a := 1) 1 rfl (by decide)
  have hk : (sk (g0 σ)).length ≤ 12 := hI.1.K
  unfold fX11_chance sp_chance jX11_chance_19
  simp only [T_c k1, T_isAsked k1 k2, show fX11_in M p.toInt64 0 1 = some (if wi p 0 1 then 1 else 0) from T_in M (a := 0) (b := 1) (by decide) (by decide), Option.bind_some, gd]
  by_cases g : okA (g0 σ) a m ∧ wi p 0 1
  · rw [if_pos g, if_pos g.1, if_pos g.2]
    obtain ⟨⟨ga, gm⟩, gp⟩ := g
    obtain ⟨j, hj, rfl⟩ := (wi_n (by omega)).mp ga
    obtain ⟨x, x0, x1, rfl⟩ := wi_ix1 (n := 40) (by decide) rfl gm
    rw [nI_clamp (show j < 2 ^ 31 by omega), nI_clamp (show x < 2 ^ 31 by omega)]
    obtain ⟨M1, F1, A1, a1, a2, a3, a4, a5⟩ := T_readAll (N := N) h hI hN
    have q := T_chanceL (N := N) a2 a3 a4 hI hN hj x1 x0 (p := p) x 0 N (by omega) (by omega)
    simp only [a1, T_plain a2 a3 a4 hI hN hj, Option.bind_some]
    rw [← mtS_0]
    exact ⟨M1, q, ⟨F1, A1, a2, a3⟩, a5⟩
  · rw [if_neg g]
    by_cases g1 : okA (g0 σ) a m
    · rw [if_pos g1, if_neg (fun q => g ⟨g1, q⟩)]; exact J
    · rw [if_neg g1]; exact J
/-! ahead -/
def lrF (g : Nat → Int32) (m : Nat) (x : Int32) : Nat → Nat → Nat
  | 0, k => k
  | f + 1, k => if (100 : Int32) * nI (slC g (nI k) m) ≤ x * nI m then k else lrF g m x f (k + 1)
def sp_ahead (σ : Sg) (a m x : Int32) : An := if okA (g0 σ) a m ∧ wi x 0 100 then (nI (lrF (mtS (g0 σ) ((sk (g0 σ)).getD a.toNatClampNeg []) (cL ((sk (g0 σ)).getD a.toNatClampNeg []) 3)) m.toNatClampNeg x 97 0), σ) else er σ 1
theorem I_ahead {σ : Sg} (h : Ig σ) (a m x : Int32) : Ig (sp_ahead σ a m x).2 := by
  unfold sp_ahead
  by_cases g : okA (g0 σ) a m ∧ wi x 0 100
  · rw [if_pos g]; exact h
  · rw [if_neg g]; exact h.er 1
theorem C_rareL {N : Nat} {M : Mm} {S : St} {c : List Int32} {l x : Int32} {m : Nat} (hm : m ≤ 40) (hN : 2000 ≤ N) (h : SlT M S c l m m) : ∀ (k i f : Nat), i + k = 97 → k < f → LX5_leastRare_2 N f M 124 x (nI i) = some (nI (lrF (mtS S c l) m x k i)) := by
  have i3 : gI M 5 124 3 = some (nI m) := gI_ok h.1 rfl
  intro k
  induction k with
  | zero =>
    intro i f hk hf
    obtain ⟨f, rfl⟩ : ∃ g, f = g + 1 := ⟨f - 1, by omega⟩
    have e : i = 97 := by omega
    subst e
    show BX5_leastRare_2 N (LX5_leastRare_2 N f) M 124 _ _ = _
    unfold BX5_leastRare_2
    rw [if_pos (by decide)]
    rfl
  | succ k ih =>
    intro i f hk hf
    obtain ⟨f, rfl⟩ : ∃ g, f = g + 1 := ⟨f - 1, by omega⟩
    have q := ih (i + 1) f (by omega) (by omega)
    show BX5_leastRare_2 N (LX5_leastRare_2 N f) M 124 _ _ = some (nI (if (100 : Int32) * nI (slC (mtS S c l) (nI i) m) ≤ x * nI m then i else lrF (mtS S c l) m x k (i + 1)))
    unfold BX5_leastRare_2
    rw [if_neg (show ¬ (96 : Int32) < nI i from nI_nlt (a := 96) (by omega) (by decide)), C_slid hm hN h]
    simp only [i3, Option.bind_some, nI_1]
    by_cases z : (100 : Int32) * nI (slC (mtS S c l) (nI i) m) ≤ x * nI m
    · rw [if_pos z, if_pos z]
    · rw [if_neg z, if_neg z]; exact q
theorem C_ahead {N : Nat} {M : Mm} {σ : Sg} (h : RelC M σ) (hI : Ig σ) (hN : 2000 ≤ N) (a m p : Int32) : DoC M (fX10_ahead N M 0 a m p) (sp_ahead σ a m p) := by
  have J := DoC.er h (a := 1) 1 rfl (by decide)
  have hk : (sk (g0 σ)).length ≤ 12 := hI.1.K
  unfold fX10_ahead sp_ahead jX10_ahead_32
  simp only [h.c, h.q0, h.q5, Option.bind_some]
  by_cases g : isK (g0 σ) a
  · obtain ⟨j, hj, rfl⟩ := (wi_n (by omega)).mp g
    rw [nI_clamp (show j < 2 ^ 31 by omega)]
    by_cases g2 : wi m 1 40
    · obtain ⟨x, x0, x1, rfl⟩ := wi_ix1 (n := 40) (by decide) rfl g2
      rw [nI_clamp (show x < 2 ^ 31 by omega)]
      obtain ⟨q, M1, M2, z1, z2, a1, a2, a3, b1, b2, b3, b4⟩ := C_tkA (N := N) h hI hN hj x1
      rw [z1]
      show DoC M ((fX10_isSlides M (nI x)).bind _) _
      simp only [C_isSlides, C_within, Option.bind_some, gd]
      rw [if_pos g2]
      by_cases g3 : wi p 0 100
      · rw [if_pos g3, if_pos ⟨⟨g, g2⟩, g3⟩]
        have e1 : fX5_leastRare N M2 124 p = some (nI (lrF (mtS (g0 σ) ((sk (g0 σ)).getD j []) (cL ((sk (g0 σ)).getD j []) 3)) x p 97 0)) := by
          have w := C_rareL (N := N) (x := p) x1 hN b3 97 0 N (by omega) (by omega)
          simp only [fX5_leastRare, gC_ok b3.1, Option.bind_some]
          exact w
        simp only [z2, a1, a2.q7, a2.q5, a3, b1, b2.q7, e1, Option.bind_some]
        exact ⟨M2, rfl, b2, b4⟩
      · rw [if_neg g3, if_neg (fun q => g3 q.2)]; exact J
    · obtain ⟨q, z1, -⟩ := C_cnt h hI hj
      rw [z1, if_neg (fun q => g2 q.1.2)]
      show DoC M ((fX10_isSlides M m).bind _) _
      simp only [C_isSlides, Option.bind_some, gd]
      rw [if_neg g2]; exact J
  · rw [if_neg (fun q => g q.1.1), (C_countingAt h hI a).1 g]
    exact J
theorem T_manyL {N : Nat} {M : Mm} {F : Nat → Int32} {A : Nat → Nat → Int32} {g : Nat → Int32} {m : Nat} {t : Int32} (h : TwAt M F A) (hm : m ≤ 40) (hA : ∀ i, 1 ≤ i → i ≤ m → A 11 i = g i) : ∀ (k i f : Nat), i + k = m → k < f → LX11_asMany_5 N f M 137 (nI m) t (nI (slC g t i)) (nI (i + 1)) = some (nI (slC g t m)) := by
  have q17 : gQ M 11 137 17 = some 149 := T_ref h rfl
  intro k
  induction k with
  | zero =>
    intro i f hk hf
    obtain ⟨f, rfl⟩ : ∃ g, f = g + 1 := ⟨f - 1, by omega⟩
    have e : i = m := by omega
    subst e
    show BX11_asMany_5 N (LX11_asMany_5 N f) M 137 _ _ _ _ = _
    unfold BX11_asMany_5
    rw [if_pos (nI_lt (by omega) (by omega))]
  | succ k ih =>
    intro i f hk hf
    obtain ⟨f, rfl⟩ : ∃ g, f = g + 1 := ⟨f - 1, by omega⟩
    have q := ih (i + 1) f (by omega) (by omega)
    have e : aI M 0 149 (nI (i + 1)) = some (g (i + 1)) := by
      rw [← hA (i + 1) (by omega) (by omega)]; exact T_get h 11 (by decide) (show i + 1 < 41 by omega)
    show BX11_asMany_5 N (LX11_asMany_5 N f) M 137 _ _ _ _ = _
    unfold BX11_asMany_5
    simp only [q17, e, Option.bind_some, nI_1, Int32.add_zero]
    rw [if_neg (nI_nlt (by omega) (by omega))]
    rw [show slC g t (i + 1) = if g (i + 1) < t then slC g t i else slC g t i + 1 from rfl] at q
    by_cases z : g (i + 1) < t
    · rw [if_pos z]
      rw [if_pos z] at q
      exact q
    · rw [if_neg z]
      rw [if_neg z] at q
      exact q
theorem T_many {N : Nat} {M : Mm} {F : Nat → Int32} {A : Nat → Nat → Int32} {g : Nat → Int32} {m : Nat} (h : TwAt M F A) (hN : 2000 ≤ N) (hm : m ≤ 40) (hA : ∀ i, 1 ≤ i → i ≤ m → A 11 i = g i) (t : Int32) : fX11_asMany N M 137 (nI m) t = some (nI (slC g t m)) := by
  have q := T_manyL (N := N) (t := t) h hm hA m 0 N (by omega) (by omega)
  simp only [fX11_asMany, T_c h, Option.bind_some]
  exact q
theorem slC_0 {g : Nat → Int32} (hg : ∀ i, g i < 97) : ∀ m, slC g 97 m = 0
  | 0 => rfl
  | m + 1 => by
    show (if g (m + 1) < 97 then slC g 97 m else slC g 97 m + 1) = 0
    rw [if_pos (hg _)]
    exact slC_0 hg m
theorem T_rareL {N : Nat} {M : Mm} {F : Nat → Int32} {A : Nat → Nat → Int32} {g : Nat → Int32} {m : Nat} {x : Int32} (h : TwAt M F A) (hN : 2000 ≤ N) (hm : m ≤ 40) (hx : wi x 0 100) (hA : ∀ i, 1 ≤ i → i ≤ m → A 11 i = g i) (hg : ∀ i, g i < 97) : ∀ (k i f : Nat), i + k = 97 → k < f → LX11_ahead_76 N f M 137 (nI m) x (nI i) = some (nI (lrF g m x k i), M) := by
  intro k
  induction k with
  | zero =>
    intro i f hk hf
    obtain ⟨f, rfl⟩ : ∃ g, f = g + 1 := ⟨f - 1, by omega⟩
    have e : i = 97 := by omega
    subst e
    show BX11_ahead_76 N (LX11_ahead_76 N f) M 137 _ _ _ = _
    unfold BX11_ahead_76
    rw [T_many h hN hm hA, show nI 97 = 97 from rfl, slC_0 hg]
    obtain ⟨y, hy, rfl⟩ := wi_ix (n := 100) (by decide) rfl hx
    have b : y * m ≤ 100 * 40 := Nat.mul_le_mul hy hm
    simp only [Option.bind_some]
    rw [pk_mul, show (100 : Int32) * nI 0 = nI 0 from by decide, if_pos (nI_le (Nat.zero_le _) (by omega))]
    rfl
  | succ k ih =>
    intro i f hk hf
    obtain ⟨f, rfl⟩ : ∃ g, f = g + 1 := ⟨f - 1, by omega⟩
    have q := ih (i + 1) f (by omega) (by omega)
    show BX11_ahead_76 N (LX11_ahead_76 N f) M 137 _ _ _ = some (nI (if (100 : Int32) * nI (slC g (nI i) m) ≤ x * nI m then i else lrF g m x k (i + 1)), M)
    unfold BX11_ahead_76
    rw [T_many h hN hm hA]
    simp only [Option.bind_some, nI_1]
    by_cases z : (100 : Int32) * nI (slC g (nI i) m) ≤ x * nI m
    · rw [if_pos z, if_pos z]
    · rw [if_neg z, if_neg z]; exact q
theorem T_aheadL {N : Nat} {F : Nat → Int32} {σ : Sg} (hI : Ig σ) (hN : 2000 ≤ N) {j m : Nat} (hj : j < (sk (g0 σ)).length) (hm : m ≤ 40) {x : Int32} (hx : wi x 0 100) : ∀ (k i f : Nat) (M : Mm) (A : Nat → Nat → Int32), i + k = m → k < f → TwAt M F A → TwR F A σ → RdA A (g0 σ) (sr (g0 σ) 2).length → (∀ s, 1 ≤ s → s ≤ i → A 11 s = mtS (g0 σ) ((sk (g0 σ)).getD j []) (cL ((sk (g0 σ)).getD j []) 3) s) → DoT M (LX11_ahead_34 N f M 137 (nI j) (nI m) x (nI (i + 1))) (nI (lrF (mtS (g0 σ) ((sk (g0 σ)).getD j []) (cL ((sk (g0 σ)).getD j []) 3)) m x 97 0), σ) := by
  intro k
  induction k with
  | zero =>
    intro i f M A hk hf h r hd hA
    obtain ⟨f, rfl⟩ : ∃ g, f = g + 1 := ⟨f - 1, by omega⟩
    have e : i = m := by omega
    subst e
    show DoT M (BX11_ahead_34 N (LX11_ahead_34 N f) M 137 _ _ _ _) _
    unfold BX11_ahead_34
    rw [if_pos (nI_lt (by omega) (by omega))]
    have w := T_rareL (N := N) h hN hm hx hA (fun s => by
      have := mt_le hI.1 (cL ((sk (g0 σ)).getD j []) 2) (cL ((sk (g0 σ)).getD j []) 3) (cL ((sk (g0 σ)).getD j []) 4) (nI s * cL ((sk (g0 σ)).getD j []) 5)
      exact nI_lt (b := 97) (by omega) (by decide)) 97 0 N (by omega) (by omega)
    rw [show LX11_ahead_76 N N M 137 (nI i) x 0 = _ from w]
    exact DoT.same ⟨F, A, h, r⟩
  | succ k ih =>
    intro i f M A hk hf h r hd hA
    obtain ⟨f, rfl⟩ : ∃ g, f = g + 1 := ⟨f - 1, by omega⟩
    have f2 : fX11_of M 137 (nI j) 2 = some (((sk (g0 σ)).getD j []).getD 3 0) := T_of h r hI.1.K hj (w := 2) (by decide)
    have f4 : fX11_of M 137 (nI j) 4 = some (((sk (g0 σ)).getD j []).getD 5 0) := T_of h r hI.1.K hj (w := 4) (by decide)
    have q17 : gQ M 11 137 17 = some 149 := T_ref h rfl
    obtain ⟨M1, a1, a2, a3⟩ := T_put h 11 (by decide) (j := i + 1) (show i + 1 < 41 by omega) (mtS (g0 σ) ((sk (g0 σ)).getD j []) (cL ((sk (g0 σ)).getD j []) 3) (i + 1))
    have a1' : sI M 0 149 (nI (i + 1)) (nI (mt (g0 σ) (cL ((sk (g0 σ)).getD j []) 2) (((sk (g0 σ)).getD j []).getD 3 0) (cL ((sk (g0 σ)).getD j []) 4) (nI (i + 1) * ((sk (g0 σ)).getD j []).getD 5 0))) = some M1 := a1
    show DoT M (BX11_ahead_34 N (LX11_ahead_34 N f) M 137 _ _ _ _) _
    unfold BX11_ahead_34
    simp only [q17, f2, f4, T_slid h r hd hI hN hj, a1', Option.bind_some, nI_1]
    rw [if_neg (nI_nlt (by omega) (by omega))]
    refine DoT.tr a3 (ih (i + 1) f M1 _ (by omega) (by omega) a2 (r.s rfl rfl rfl rfl rfl rfl rfl) hd (fun s s1 s2 => ?_))
    show upd (A 11) (i + 1) _ s = _
    by_cases e : s = i + 1
    · subst e; exact pk_us
    · rw [pk_un e]; exact hA s s1 (by omega)
theorem T_ahead {N : Nat} {M : Mm} {σ : Sg} (h : RelT M σ) (hI : Ig σ) (hN : 2000 ≤ N) (a m p : Int32) : DoT M (fX11_ahead N M 137 a m p) (sp_ahead σ a m p) := by
  obtain ⟨F, A, k1, k2⟩ := id h
  have J := DoT.er h hI.2.2.1 (a := 1) 1 rfl (by decide)
  have hk : (sk (g0 σ)).length ≤ 12 := hI.1.K
  unfold fX11_ahead sp_ahead jX11_ahead_21
  simp only [T_c k1, T_isAsked k1 k2, show fX11_in M p.toInt64 0 100 = some (if wi p 0 100 then 1 else 0) from T_in M (a := 0) (b := 100) (by decide) (by decide), Option.bind_some, gd]
  by_cases g : okA (g0 σ) a m ∧ wi p 0 100
  · rw [if_pos g, if_pos g.1, if_pos g.2]
    obtain ⟨⟨ga, gm⟩, gp⟩ := g
    obtain ⟨j, hj, rfl⟩ := (wi_n (by omega)).mp ga
    obtain ⟨x, x0, x1, rfl⟩ := wi_ix1 (n := 40) (by decide) rfl gm
    rw [nI_clamp (show j < 2 ^ 31 by omega), nI_clamp (show x < 2 ^ 31 by omega)]
    obtain ⟨M1, F1, A1, a1, a2, a3, a4, a5⟩ := T_readAll (N := N) h hI hN
    simp only [a1, Option.bind_some]
    exact DoT.tr a5 (T_aheadL (N := N) (F := F1) hI hN hj x1 gp x 0 N M1 A1 (by omega) (by omega) a2 a3 a4 (fun s s1 s2 => by omega))
  · rw [if_neg g]
    by_cases g1 : okA (g0 σ) a m
    · rw [if_pos g1, if_neg (fun q => g ⟨g1, q⟩)]; exact J
    · rw [if_neg g1]; exact J
