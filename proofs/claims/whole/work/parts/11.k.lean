/-! wrong -/
theorem any_rng (xs : List Int32) (p : Int32 → Bool) : xs.any p = (List.range xs.length).any (fun k => p (xs.getD k 0)) := by
  rw [Bool.eq_iff_iff, List.any_eq_true, List.any_eq_true]
  constructor
  · rintro ⟨x, hx, hp⟩
    obtain ⟨i, hi, e⟩ := List.getElem_of_mem hx
    exact ⟨i, List.mem_range.mpr hi, by rw [show xs.getD i 0 = xs[i] from by simp [List.getD_eq_getElem?_getD, hi], e]; exact hp⟩
  · rintro ⟨i, hi, hp⟩
    rw [List.mem_range] at hi
    exact ⟨xs[i], List.getElem_mem hi, by rw [show xs.getD i 0 = xs[i] from by simp [List.getD_eq_getElem?_getD, hi]] at hp; exact hp⟩
theorem ab_sym {x y : Int32} (hx : wi x 0 9999) (hy : wi y 0 9999) : ab (x - y) = ab (y - x) := by
  rw [wi_i] at hx hy
  have e0 : (0 : Int32).toInt = 0 := by decide
  have e9 : (9999 : Int32).toInt = 9999 := by decide
  rw [e0, e9] at hx hy
  have s1 : (x - y).toInt = x.toInt - y.toInt := i_sub (by omega) (by omega)
  have s2 : (y - x).toInt = y.toInt - x.toInt := i_sub (by omega) (by omega)
  unfold ab
  by_cases h1 : 0 ≤ x - y
  · rw [if_pos h1]
    rw [i_le, e0, s1] at h1
    by_cases h2 : 0 ≤ y - x
    · rw [if_pos h2]
      rw [i_le, e0, s2] at h2
      rw [i_eq, s1, s2]; omega
    · rw [if_neg h2, Int32.neg_sub]
  · rw [if_neg h1, Int32.neg_sub]
    rw [i_le, e0, s1] at h1
    rw [if_pos (by rw [i_le, e0, s2]; omega)]
def wrG (S : St) (w : Int32) (r : Nat) : Bool := (List.range (sr S 7).length).any (fun k => decide (¬ w < ab ((sr S 3).getD r 0 - (sr S 7).getD k 0)))
def sp_wrong (σ : Sg) (bar l w : Int32) : An := if isB (g0 σ) bar ∧ wi l 0 999 ∧ wi w 0 50 then (nI ((ctd (g0 σ) bar l).countP (fun r => !wrG (g0 σ) w r)), σ) else er σ 1
theorem C_wrongL {N : Nat} {M : Mm} {σ : Sg} {bar l w : Int32} (h : RelC M σ) (hI : Ig σ) (hN : 2000 ≤ N) (hk : Kp M 109 (g0 σ) (ctd (g0 σ) bar l)) : ∀ (k i f : Nat), i + k = (ctd (g0 σ) bar l).length → k < f → LX10_wrong_64 N f M 0 w (clk (g0 σ) bar) (nI (((ctd (g0 σ) bar l).take i).countP (fun r => !wrG (g0 σ) w r))) (nI i) = some (nI ((ctd (g0 σ) bar l).countP (fun r => !wrG (g0 σ) w r)), M) := by
  have hl := ctd_len hI.1 bar l
  have q5 : gQ M 7 109 5 = some 120 := gQ_ok (h.tpA (Or.inr (Or.inr rfl))).1 rfl
  have w5 : Rw M 120 96 ((ctd (g0 σ) bar l).map (shn (g0 σ))) := hk.2
  intro k
  induction k with
  | zero =>
    intro i f hk' hf
    obtain ⟨f, rfl⟩ : ∃ g, f = g + 1 := ⟨f - 1, by omega⟩
    have e : i = (ctd (g0 σ) bar l).length := by omega
    subst e
    show BX10_wrong_64 N (LX10_wrong_64 N f) M 0 _ _ _ _ = _
    unfold BX10_wrong_64
    simp only [h.q6, q5, R_size w5, Option.bind_some, List.length_map]
    rw [if_pos (nI_le (Nat.le_refl _) (by omega)), List.take_length]
  | succ k ih =>
    intro i f hk' hf
    obtain ⟨f, rfl⟩ : ∃ g, f = g + 1 := ⟨f - 1, by omega⟩
    have q := ih (i + 1) f (by omega) (by omega)
    have hi : i < (ctd (g0 σ) bar l).length := by omega
    have hg : (ctd (g0 σ) bar l)[i]? = some (ctd (g0 σ) bar l)[i] := List.getElem?_eq_getElem hi
    have etk : (ctd (g0 σ) bar l).take (i + 1) = (ctd (g0 σ) bar l).take i ++ [(ctd (g0 σ) bar l)[i]] := by rw [← List.take_concat_get hi, List.concat_eq_append]
    have m := mem_ctd.mp (List.getElem_mem hi)
    generalize (ctd (g0 σ) bar l)[i] = r at hg etk m
    have es : ((ctd (g0 σ) bar l).map (shn (g0 σ))).getD i 0 = shn (g0 σ) r := by
      rw [List.getD_eq_getElem?_getD, List.getElem?_map, hg]; rfl
    have et : shn (g0 σ) r - clk (g0 σ) bar = (sr (g0 σ) 3).getD r 0 := by
      unfold shn; rw [m.2.1, Int32.add_sub_cancel]
    have en : (sr (g0 σ) 7).any (fun x => decide (¬ w < ab (x - (sr (g0 σ) 3).getD r 0))) = wrG (g0 σ) w r := by
      rw [any_rng]
      unfold wrG
      refine any_congr (fun k _ => ?_)
      rw [ab_sym (getD_wi (hI.1.1 7 (by decide)) (by decide) k) (getD_wi (hI.1.1 3 (by decide)) (by decide) r)]
    have ec : ((ctd (g0 σ) bar l).take (i + 1)).countP (fun r => !wrG (g0 σ) w r) = ((ctd (g0 σ) bar l).take i).countP (fun r => !wrG (g0 σ) w r) + if wrG (g0 σ) w r = true then 0 else 1 := by
      rw [etk, List.countP_append, List.countP_cons]
      cases wrG (g0 σ) w r <;> rfl
    rw [ec] at q
    show BX10_wrong_64 N (LX10_wrong_64 N f) M 0 _ _ _ _ = _
    unfold BX10_wrong_64
    simp only [h.q0, h.q6, h.f7, q5, R_size w5, R_at w5, lg_nI (show i < 2 ^ 31 by omega), es, et, R_near h.w7 hN, en, Option.bind_some, gd, nI_1, List.length_map]
    rw [if_neg (nI_ge hi (by omega))]
    by_cases z : wrG (g0 σ) w r = true
    · rw [if_pos z]
      rw [if_pos z] at q
      exact q
    · rw [if_neg z]
      rw [if_neg z] at q
      exact q
theorem C_wrong {N : Nat} {M : Mm} {σ : Sg} (h : RelC M σ) (hI : Ig σ) (hN : 2000 ≤ N) (bar l w : Int32) : DoC M (fX10_wrong N M 0 bar l w) (sp_wrong σ bar l w) := by
  have J := DoC.er h (a := 1) 1 rfl (by decide)
  have hb6 : (sr (g0 σ) 1).length ≤ 6 := hI.1.L 1 (by decide)
  unfold fX10_wrong sp_wrong jX10_wrong_22
  simp only [h.c, C_isBar h, C_isLine, C_isWindow, Option.bind_some, gd]
  by_cases g : isB (g0 σ) bar ∧ wi l 0 999 ∧ wi w 0 50
  · rw [if_pos g, if_pos g.1, if_pos g.2.1, if_pos g.2.2]
    obtain ⟨b, hb, rfl⟩ := (wi_n (by omega)).mp g.1
    have hl := ctd_len hI.1 (nI b) l
    obtain ⟨M1, M2, a1, a2, a3, a4, a5, a6⟩ := C_hk (N := N) (t := 109) h hI (Or.inr (Or.inr rfl)) hN hb l
    have q := C_wrongL (N := N) (w := w) a4 hI hN a5 (ctd (g0 σ) (nI b) l).length 0 N (by omega) (by omega)
    simp only [h.q0, h.q6, a1, a2.q6, a3, a4.q0, N_clock a4.2.1, Option.bind_some]
    exact ⟨M2, q, a4, a6⟩
  · rw [if_neg g]
    by_cases g1 : isB (g0 σ) bar
    · rw [if_pos g1]
      by_cases g2 : wi l 0 999
      · rw [if_pos g2, if_neg (fun q => g ⟨g1, g2, q⟩)]; exact J
      · rw [if_neg g2]; exact J
    · rw [if_neg g1]; exact J
theorem T_wrongI {N : Nat} {K : Mm → Nat → Int32 → Int32 → Int32 → Int32 → Int32 → Option (Int32 × Mm)} {M : Mm} {F : Nat → Int32} {A : Nat → Nat → Int32} {σ : Sg} {bar l w x : Int32} (h : TwAt M F A) (r : TwR F A σ) (hI : Ig σ) {j : Nat} (hj : j < (sr (g0 σ) 2).length) {c : Bool} : ∀ (k i f : Nat), i + k = (sr (g0 σ) 7).length → k < f → LX11_wrong_62 N K f M 137 bar l w x (nI j) (if (c && !(List.range i).any (fun k => decide (¬ w < ab ((sr (g0 σ) 3).getD j 0 - (sr (g0 σ) 7).getD k 0)))) = true then 1 else 0) (nI i) = K M 137 bar l w (x + if (c && !wrG (g0 σ) w j) = true then 1 else 0) (nI (j + 1)) := by
  have hl : (sr (g0 σ) 7).length ≤ 10 := hI.1.L 7 (by decide)
  intro k
  induction k with
  | zero =>
    intro i f hk hf
    obtain ⟨f, rfl⟩ : ∃ g, f = g + 1 := ⟨f - 1, by omega⟩
    have e : i = (sr (g0 σ) 7).length := by omega
    subst e
    show BX11_wrong_62 N K (LX11_wrong_62 N K f) M 137 _ _ _ _ _ _ _ = _
    unfold BX11_wrong_62
    simp only [T_q0 h, (T_cnt h r).2.2.2.2.1, Option.bind_some, nI_1, jX11_wrong_103]
    rw [if_pos (nI_le (Nat.le_refl _) (by omega))]
    show (if (if (c && !wrG (g0 σ) w j) = true then (1 : Int32) else 0) = 0 then _ else _) = _
    rw [gd]
    by_cases z : (c && !wrG (g0 σ) w j) = true
    · rw [if_pos z, if_pos z]
    · rw [if_neg z, if_neg z]
  | succ k ih =>
    intro i f hk hf
    obtain ⟨f, rfl⟩ : ∃ g, f = g + 1 := ⟨f - 1, by omega⟩
    have hi : i < (sr (g0 σ) 7).length := by omega
    have q := ih (i + 1) f (by omega) (by omega)
    rw [any_s] at q
    show BX11_wrong_62 N K (LX11_wrong_62 N K f) M 137 _ _ _ _ _ _ _ = _
    unfold BX11_wrong_62
    simp only [T_q0 h, (T_cnt h r).2.2.2.2.1, T_isNear h r hI hj hi, Option.bind_some, nI_1, gd, jX11_wrong_103]
    rw [if_neg (nI_ge hi (by omega))]
    by_cases z : (c && !(List.range i).any (fun k => decide (¬ w < ab ((sr (g0 σ) 3).getD j 0 - (sr (g0 σ) 7).getD k 0)))) = true
    · rw [if_pos z]
      rw [Bool.and_eq_true] at z
      obtain ⟨z1, z2⟩ := z
      rw [Bool.not_eq_true'] at z2
      by_cases y : ¬ w < ab ((sr (g0 σ) 3).getD j 0 - (sr (g0 σ) 7).getD i 0)
      · rw [if_pos y]
        rw [decide_eq_true y, Bool.or_true, Bool.not_true, Bool.and_false, if_neg (by decide)] at q
        exact q
      · rw [if_neg y]
        rw [decide_eq_false y, Bool.or_false, z2, z1, show (true && !false) = true from rfl, if_pos rfl] at q
        rw [z1]
        exact q
    · rw [if_neg z]
      have e : ¬ (c && !wrG (g0 σ) w j) = true := by
        intro w'
        apply z
        rw [Bool.and_eq_true, Bool.not_eq_true'] at w' ⊢
        refine ⟨w'.1, ?_⟩
        have w2 := w'.2
        unfold wrG at w2
        rw [List.any_eq_false] at w2 ⊢
        exact fun x hx => w2 x (List.mem_range.mpr (by have := List.mem_range.mp hx; omega))
      rw [if_neg e, if_neg z]
theorem T_wrongL {N : Nat} {M : Mm} {F : Nat → Int32} {A : Nat → Nat → Int32} {σ : Sg} {bar l w : Int32} (h : TwAt M F A) (r : TwR F A σ) (hd : RdA A (g0 σ) (sr (g0 σ) 2).length) (hI : Ig σ) (hN : 2000 ≤ N) : ∀ (k i f : Nat), i + k = (sr (g0 σ) 2).length → k < f → LX11_wrong_38 N f M 137 bar l w (nI ((List.range i).countP (fun r => decide ((sr (g0 σ) 2).getD r 0 = bar ∧ cnt (g0 σ) l r) && !wrG (g0 σ) w r))) (nI i) = some (nI ((ctd (g0 σ) bar l).countP (fun r => !wrG (g0 σ) w r)), M) := by
  have hl : (sr (g0 σ) 2).length ≤ 96 := hI.1.L 2 (by decide)
  have hl7 : (sr (g0 σ) 7).length ≤ 10 := hI.1.L 7 (by decide)
  intro k
  induction k with
  | zero =>
    intro i f hk hf
    obtain ⟨f, rfl⟩ : ∃ g, f = g + 1 := ⟨f - 1, by omega⟩
    have e : i = (sr (g0 σ) 2).length := by omega
    subst e
    show BX11_wrong_38 N (LX11_wrong_38 N f) M 137 _ _ _ _ _ = _
    unfold BX11_wrong_38
    simp only [T_q0 h, (T_cnt h r).2.1, Option.bind_some]
    rw [if_pos (nI_le (Nat.le_refl _) (by omega)), ctd_cnt]
  | succ k ih =>
    intro i f hk hf
    obtain ⟨f, rfl⟩ : ∃ g, f = g + 1 := ⟨f - 1, by omega⟩
    have hi : i < (sr (g0 σ) 2).length := by omega
    have q := ih (i + 1) f (by omega) (by omega)
    have w1 := T_wrongI (N := N) (K := LX11_wrong_38 N f) (bar := bar) (l := l) (w := w) (x := nI ((List.range i).countP (fun r => decide ((sr (g0 σ) 2).getD r 0 = bar ∧ cnt (g0 σ) l r) && !wrG (g0 σ) w r))) h r hI hi (c := decide ((sr (g0 σ) 2).getD i 0 = bar ∧ cnt (g0 σ) l i)) (sr (g0 σ) 7).length 0 N (by omega) (by omega)
    rw [cP_s] at q
    show BX11_wrong_38 N (LX11_wrong_38 N f) M 137 _ _ _ _ _ = _
    unfold BX11_wrong_38
    simp only [T_q0 h, (T_cnt h r).2.1, T_isCounted h r hd hI hi, Option.bind_some]
    rw [if_neg (nI_ge hi (by omega))]
    have e1 : (if (sr (g0 σ) 2).getD i 0 = bar ∧ cnt (g0 σ) l i then (1 : Int32) else 0) = (if (decide ((sr (g0 σ) 2).getD i 0 = bar ∧ cnt (g0 σ) l i) && !(List.range 0).any (fun k => decide (¬ w < ab ((sr (g0 σ) 3).getD i 0 - (sr (g0 σ) 7).getD k 0)))) = true then 1 else 0) := by
      by_cases z : (sr (g0 σ) 2).getD i 0 = bar ∧ cnt (g0 σ) l i
      · rw [if_pos z, decide_eq_true z, if_pos (by simp)]
      · rw [if_neg z, decide_eq_false z, if_neg (by simp)]
    rw [e1]
    refine w1.trans ?_
    rw [← q]
    by_cases z : (decide ((sr (g0 σ) 2).getD i 0 = bar ∧ cnt (g0 σ) l i) && !wrG (g0 σ) w i) = true
    · rw [if_pos z, if_pos z, nI_1]
    · rw [if_neg z, if_neg z, Int32.add_zero]
      rfl
theorem T_wrong {N : Nat} {M : Mm} {σ : Sg} (h : RelT M σ) (hI : Ig σ) (hN : 2000 ≤ N) (bar l w : Int32) : DoT M (fX11_wrong N M 137 bar l w) (sp_wrong σ bar l w) := by
  obtain ⟨F, A, k1, k2⟩ := id h
  have J := DoT.er h hI.2.2.1 (a := 1) 1 rfl (by decide)
  have hl : (sr (g0 σ) 2).length ≤ 96 := hI.1.L 2 (by decide)
  unfold fX11_wrong sp_wrong jX11_wrong_22
  simp only [T_c k1, T_isBar k1 k2, T_isLine, T_isWindow, Option.bind_some, gd]
  by_cases g : isB (g0 σ) bar ∧ wi l 0 999 ∧ wi w 0 50
  · rw [if_pos g, if_pos g.1, if_pos g.2.1, if_pos g.2.2]
    obtain ⟨M1, F1, A1, a1, a2, a3, a4, a5⟩ := T_readAll (N := N) h hI hN
    have q := T_wrongL (N := N) (bar := bar) (l := l) (w := w) a2 a3 a4 hI hN (sr (g0 σ) 2).length 0 N (by omega) (by omega)
    simp only [a1, Option.bind_some]
    exact ⟨M1, q, ⟨F1, A1, a2, a3⟩, a5⟩
  · rw [if_neg g]
    by_cases g1 : isB (g0 σ) bar
    · rw [if_pos g1]
      by_cases g2 : wi l 0 999
      · rw [if_pos g2, if_neg (fun q => g ⟨g1, g2, q⟩)]; exact J
      · rw [if_neg g2]; exact J
    · rw [if_neg g1]; exact J
theorem I_wrong {σ : Sg} (h : Ig σ) (bar l w : Int32) : Ig (sp_wrong σ bar l w).2 := by
  unfold sp_wrong
  by_cases g : isB (g0 σ) bar ∧ wi l 0 999 ∧ wi w 0 50
  · rw [if_pos g]; exact h
  · rw [if_neg g]; exact h.er 1
