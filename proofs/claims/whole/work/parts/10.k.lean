/-! counting in the reference -/
theorem TwS.k {f : Nat → Int32} {S : St} (h : TwS f S) (hL : ∀ i, i < 13 → (sr S i).length ≤ rc i) (hk : (sk S).length < 12) (n a b c d e : Int32) : TwS (upd (upd (upd (upd (upd (upd f (306 + 5 * (sk S).length) a) (306 + 5 * (sk S).length + 1) b) (306 + 5 * (sk S).length + 2) c) (306 + 5 * (sk S).length + 3) d) (306 + 5 * (sk S).length + 4) e) 2 (nI ((sk S).length + 1))) (S.1, S.2.1, sk S ++ [[n, a, b, c, d, e]], S.2.2.2) := by
  obtain ⟨⟨c0, c1, c2, c3, c4, c5, c6, c7, c8⟩, h1, h2, h3⟩ := h
  have el : (sk S ++ [[n, a, b, c, d, e]]).length = (sk S).length + 1 := by simp
  have far : ∀ p, p ≠ 2 → ¬ (306 + 5 * (sk S).length ≤ p ∧ p < 311 + 5 * (sk S).length) → upd (upd (upd (upd (upd (upd f (306 + 5 * (sk S).length) a) (306 + 5 * (sk S).length + 1) b) (306 + 5 * (sk S).length + 2) c) (306 + 5 * (sk S).length + 3) d) (306 + 5 * (sk S).length + 4) e) 2 (nI ((sk S).length + 1)) p = f p := fun p q1 q2 => by
    rw [pk_un q1, pk_un (by omega), pk_un (by omega), pk_un (by omega), pk_un (by omega), pk_un (by omega)]
  refine ⟨⟨?_, ?_, ?_, ?_, ?_, ?_, ?_, ?_, ?_⟩, fun i hi j hj => ?_, fun k hk2 w hw => ?_, fun u hu => ((((((h3 u hu).up (by omega)).up (by omega)).up (by omega)).up (by omega)).up (by omega)).up (by omega)⟩
  · rw [far 0 (by decide) (by omega)]; exact c0
  · rw [far 1 (by decide) (by omega)]; exact c1
  · show _ = nI (sk S ++ [[n, a, b, c, d, e]]).length
    rw [pk_us, el]
  · rw [far 3 (by decide) (by omega)]; exact c3
  · rw [far 4 (by decide) (by omega)]; exact c4
  · rw [far 5 (by decide) (by omega)]; exact c5
  · rw [far 6 (by decide) (by omega)]; exact c6
  · rw [far 7 (by decide) (by omega)]; exact c7
  · rw [far 8 (by decide) (by omega)]; exact c8
  · have b2 := tix_in i hi j (Nat.lt_of_lt_of_le hj (hL i hi))
    rw [far _ (by omega) (by omega)]
    exact h1 i hi j hj
  · have hk3 : k < (sk S ++ [[n, a, b, c, d, e]]).length := hk2
    show _ = ((sk S ++ [[n, a, b, c, d, e]]).getD k []).getD (w + 1) 0
    by_cases z : k = (sk S).length
    · subst z
      rw [show (sk S ++ [[n, a, b, c, d, e]]).getD (sk S).length [] = [n, a, b, c, d, e] by simp [List.getD_eq_getElem?_getD]]
      match w, hw with
      | 0, _ =>
        rw [pk_un (by omega), pk_un (by omega), pk_un (by omega), pk_un (by omega), pk_un (by omega)]
        exact pk_us
      | 1, _ =>
        rw [pk_un (by omega), pk_un (by omega), pk_un (by omega), pk_un (by omega), pk_us]
        rfl
      | 2, _ =>
        rw [pk_un (by omega), pk_un (by omega), pk_un (by omega), pk_us]
        rfl
      | 3, _ =>
        rw [pk_un (by omega), pk_un (by omega), pk_us]
        rfl
      | 4, _ =>
        rw [pk_un (by omega), pk_us]
        rfl
    · rw [far _ (by omega) (by omega), show (sk S ++ [[n, a, b, c, d, e]]).getD k [] = (sk S).getD k [] by rw [List.getD_eq_getElem?_getD, List.getD_eq_getElem?_getD, List.getElem?_append_left (by omega)]]
      exact h2 k (by omega) w hw
theorem T_addCounting {M : Mm} {F : Nat → Int32} {A : Nat → Nat → Int32} {σ : Sg} (k1 : TwAt M F A) (k2 : TwR F A σ) (hI : Ig σ) (hk : (sk (g0 σ)).length < 12) (a b c d e : Int32) : ∃ M0 M1 M2 M3 M4 M5, (sI M 0 138 (nI (306 + 5 * (sk (g0 σ)).length)) a = some M0 ∧ gQ M0 11 137 0 = some 138) ∧ (sI M0 0 138 (nI (306 + 5 * (sk (g0 σ)).length + 1)) b = some M1 ∧ gQ M1 11 137 0 = some 138) ∧ (sI M1 0 138 (nI (306 + 5 * (sk (g0 σ)).length + 2)) c = some M2 ∧ gQ M2 11 137 0 = some 138) ∧ (sI M2 0 138 (nI (306 + 5 * (sk (g0 σ)).length + 3)) d = some M3 ∧ gQ M3 11 137 0 = some 138) ∧ (sI M3 0 138 (nI (306 + 5 * (sk (g0 σ)).length + 4)) e = some M4 ∧ gQ M4 11 137 0 = some 138 ∧ aI M4 0 138 2 = some (nI (sk (g0 σ)).length)) ∧ sI M4 0 138 2 (nI ((sk (g0 σ)).length + 1)) = some M5 ∧ RelT M5 (kS σ [nI (sk (g0 σ)).length, a, b, c, d, e]) ∧ FrT M M5 := by
  obtain ⟨M0, a0, b0, c0⟩ := T_mp k1 (j := 306 + 5 * (sk (g0 σ)).length) (by omega) a
  obtain ⟨M1, a1, b1, c1⟩ := T_mp b0 (j := 306 + 5 * (sk (g0 σ)).length + 1) (by omega) b
  obtain ⟨M2, a2, b2, c2⟩ := T_mp b1 (j := 306 + 5 * (sk (g0 σ)).length + 2) (by omega) c
  obtain ⟨M3, a3, b3, c3⟩ := T_mp b2 (j := 306 + 5 * (sk (g0 σ)).length + 3) (by omega) d
  obtain ⟨M4, a4, b4, c4⟩ := T_mp b3 (j := 306 + 5 * (sk (g0 σ)).length + 4) (by omega) e
  obtain ⟨M5, a5, b5, c5⟩ := T_mp b4 (j := 2) (by decide) (nI ((sk (g0 σ)).length + 1))
  refine ⟨M0, M1, M2, M3, M4, M5, ⟨a0, T_q0 b0⟩, ⟨a1, T_q0 b1⟩, ⟨a2, T_q0 b2⟩, ⟨a3, T_q0 b3⟩, ⟨a4, T_q0 b4, ?_⟩, a5, ⟨F, _, b5, k2.m0 (k2.1.k hI.1.L hk (nI (sk (g0 σ)).length) a b c d e) (fun k hk => by rw [u2_n hk, u2_n hk, u2_n hk, u2_n hk, u2_n hk, u2_n hk])⟩, ((((c0.trans c1).trans c2).trans c3).trans c4).trans c5⟩
  have q := T_m b4 (j := 2) (by decide)
  have q' : aI M4 0 138 2 = some (upd (upd (upd (upd (upd (A 0) (306 + 5 * (sk (g0 σ)).length) a) (306 + 5 * (sk (g0 σ)).length + 1) b) (306 + 5 * (sk (g0 σ)).length + 2) c) (306 + 5 * (sk (g0 σ)).length + 3) d) (306 + 5 * (sk (g0 σ)).length + 4) e 2) := q
  rw [q', pk_un (by omega), pk_un (by omega), pk_un (by omega), pk_un (by omega), pk_un (by omega), k2.1.1.2.2.1]
theorem T_counting {M : Mm} {σ : Sg} (h : RelT M σ) (hI : Ig σ) (a ab l w d : Int32) : DoT M (fX11_counting M 137 a ab l w d) (sp_counting σ a ab l w d) := by
  obtain ⟨F, A, k1, k2⟩ := id h
  have J := DoT.er h hI.2.2.1 (a := 1) 1 rfl (by decide)
  have J4 := DoT.er h hI.2.2.1 (a := 4) 4 rfl (by decide)
  have hk : (sk (g0 σ)).length ≤ 12 := hI.1.K
  have i7 : fX11_in M a.toInt64 0 7 = some (if wi a 0 7 then 1 else 0) := T_in M (a := 0) (b := 7) (by decide) (by decide)
  have i9 : fX11_in M d.toInt64 1 999 = some (if wi d 1 999 then 1 else 0) := T_in M (a := 1) (b := 999) (by decide) (by decide)
  unfold fX11_counting sp_counting jX11_counting_48
  simp only [T_c k1, T_q0 k1, (T_cnt k1 k2).2.2.1, i7, i9, T_isPair k1 k2, T_isLine, T_isWindow, gd, Option.bind_some]
  by_cases g : wi a 0 7 ∧ isP (g0 σ) ab ∧ wi l 0 999 ∧ wi w 0 50 ∧ wi d 1 999
  · rw [if_pos g, if_pos g.1, if_pos g.2.1, if_pos g.2.2.1, if_pos g.2.2.2.1, if_pos g.2.2.2.2]
    by_cases z : (sk (g0 σ)).length < 12
    · rw [if_neg (fun q => by have := (nI_eq (a := (sk (g0 σ)).length) (b := 12) (by omega) (by decide)).mp q; omega), if_pos z]
      obtain ⟨M0, M1, M2, M3, M4, M5, ⟨a0, b0⟩, ⟨a1, b1⟩, ⟨a2, b2⟩, ⟨a3, b3⟩, ⟨a4, b4, b5⟩, a5, r1, r2⟩ := T_addCounting k1 k2 hI z a ab l w d
      have ex : (306 : Int32) + (5 : Int32) * nI (sk (g0 σ)).length = nI (306 + 5 * (sk (g0 σ)).length) := by
        rw [show (5 : Int32) * nI (sk (g0 σ)).length = nI (5 * (sk (g0 σ)).length) from pk_mul 5 _]
        exact nI_add 306 _
      rw [ex]
      rw [show nI (306 + 5 * (sk (g0 σ)).length) + (1 : Int32) = nI (306 + 5 * (sk (g0 σ)).length + 1) from nI_add _ 1, show nI (306 + 5 * (sk (g0 σ)).length) + (2 : Int32) = nI (306 + 5 * (sk (g0 σ)).length + 2) from nI_add _ 2, show nI (306 + 5 * (sk (g0 σ)).length) + (3 : Int32) = nI (306 + 5 * (sk (g0 σ)).length + 3) from nI_add _ 3, show nI (306 + 5 * (sk (g0 σ)).length) + (4 : Int32) = nI (306 + 5 * (sk (g0 σ)).length + 4) from nI_add _ 4]
      simp only [a0, b0, a1, b1, a2, b2, a3, b3, a4, b4, b5, nI_1, a5, Option.bind_some]
      exact ⟨M5, rfl, r1, r2⟩
    · rw [if_pos (by rw [show (sk (g0 σ)).length = 12 by omega]; rfl), if_neg z]
      exact J4
  · rw [if_neg g]
    by_cases c1 : wi a 0 7
    · rw [if_pos c1]
      by_cases c2 : isP (g0 σ) ab
      · rw [if_pos c2]
        by_cases c3 : wi l 0 999
        · rw [if_pos c3]
          by_cases c4 : wi w 0 50
          · rw [if_pos c4, if_neg (fun q => g ⟨c1, c2, c3, c4, q⟩)]; exact J
          · rw [if_neg c4]; exact J
        · rw [if_neg c3]; exact J
      · rw [if_neg c2]; exact J
    · rw [if_neg c1]; exact J
