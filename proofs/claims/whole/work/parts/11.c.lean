/-! ringOf -/
theorem Iv.bar1 {S : St} (h : Iv S) {r : Nat} (hr : r < (sr S 2).length) : ∃ b : Nat, b < (sr S 1).length ∧ (sr S 2).getD r 0 = nI b := by
  have hl : (sr S 1).length ≤ 6 := h.L 1 (by decide)
  have e : (sr S 2).getD r 0 = (sr S 2)[r] := by simp [List.getD_eq_getElem?_getD, hr]
  have m : (sr S 2)[r] ∈ sr S 2 := List.getElem_mem hr
  have h1 := h.1 2 (by decide) _ m
  have h2 := h.2.1 _ m
  rw [e]
  obtain ⟨b, hb, eb⟩ := nI_of h1.1
  rw [eb] at h2 ⊢
  exact ⟨b, (nI_ltI hb (by omega)).mp h2, rfl⟩
theorem Iv.hse {S : St} (h : Iv S) {b : Nat} (hb : b < (sr S 1).length) : ∃ u : Nat, u < 3 ∧ (sr S 1).getD b 0 = nI u := by
  have e : (sr S 1).getD b 0 = (sr S 1)[b] := by simp [List.getD_eq_getElem?_getD, hb]
  have h1 := h.1 1 (by decide) _ (List.getElem_mem hb)
  rw [e]
  obtain ⟨u, hu, eu⟩ := wi_ix (n := 2) (by decide) rfl h1
  exact ⟨u, by omega, eu⟩
theorem T_clk {M : Mm} {F : Nat → Int32} {A : Nat → Nat → Int32} {σ : Sg} (h : TwAt M F A) (r : TwR F A σ) (hI : Ig σ) {b : Nat} (hb : b < (sr (g0 σ) 1).length) : fX11_clockOf M 137 (nI b) = some (clk (g0 σ) (nI b)) := by
  have hl : (sr (g0 σ) 1).length ≤ 6 := hI.1.L 1 (by decide)
  obtain ⟨u, hu, eu⟩ := hI.1.hse hb
  have l0 := hI.1.len.1
  have a1 := r.1.2.1 1 (by decide) b hb
  have a2 := r.1.2.1 0 (by decide) u (by omega)
  have t1 : tix 1 b = 12 + b := by show 12 + 1 * b = _; omega
  have t2 : tix 0 u = 9 + u := by show 9 + 1 * u = _; omega
  rw [t1] at a1
  rw [t2] at a2
  simp only [fX11_clockOf, T_c h, T_q0 h, show (12 : Int32) + nI b = nI (12 + b) from nI_add 12 b, T_m h (show 12 + b < 950 by omega), a1, eu, show (9 : Int32) + nI u = nI (9 + u) from nI_add 9 u, T_m h (show 9 + u < 950 by omega), a2, Option.bind_some]
  unfold clk
  rw [lg_nI (by omega), eu, lg_nI (by omega)]
theorem T_shown {M : Mm} {F : Nat → Int32} {A : Nat → Nat → Int32} {σ : Sg} (h : TwAt M F A) (r : TwR F A σ) (hI : Ig σ) {j : Nat} (hj : j < (sr (g0 σ) 2).length) : fX11_shownOf M 137 (nI j) = some (shn (g0 σ) j) := by
  have e0 : fX11_ring M 137 (nI j) 0 = some ((sr (g0 σ) 2).getD j 0) := T_rg h r hI hj (w := 0) (by decide)
  have e1 : fX11_ring M 137 (nI j) 1 = some ((sr (g0 σ) 3).getD j 0) := T_rg h r hI hj (w := 1) (by decide)
  obtain ⟨b, hb, eb⟩ := hI.1.bar1 hj
  have e2 : fX11_clockOf M 137 ((sr (g0 σ) 2).getD j 0) = some (clk (g0 σ) ((sr (g0 σ) 2).getD j 0)) := by
    rw [eb]; exact T_clk h r hI hb
  simp only [fX11_shownOf, T_c h, e0, e1, e2, Option.bind_some, shn]
def TpT (M : Mm) (t : Nat) (S : St) (T : List Nat) : Prop := Tp M t (T.map nI) (T.map (shn S)) (T.map (fun r => (sr S 4).getD r 0))
theorem C_layT {N : Nat} {M : Mm} {σ : Sg} (h : RelC M σ) (hI : Ig σ) (hN : 2000 ≤ N) (bar : Int32) : ∃ M', fX7_lay N M 109 1 bar = some M' ∧ RelC M' σ ∧ FrC M M' ∧ TpT M' 109 (g0 σ) (tape (g0 σ) bar) := by
  obtain ⟨M', a1, a2, a3, a4⟩ := C_layG (N := N) h hI hN bar
  refine ⟨M', a1, a2, a3, ?_⟩
  rw [tpS_N] at a4
  exact a4
theorem C_place {N : Nat} {M : Mm} {t : Nat} {S : St} {T : List Nat} (h : TpT M t S T) (hT : T.Pairwise (ahd S)) (hl : T.length ≤ 96) (hb : ∀ x ∈ T, x < 96) {j x : Nat} (hj : T[j]? = some x) (hN : 2000 ≤ N) : fX7_placeOf N M t (nI x) = some (nI j) := by
  have hj1 := (List.getElem?_eq_some_iff.mp hj).1
  have hj2 := (List.getElem?_eq_some_iff.mp hj).2
  have q0 : gQ M 7 t 0 = some (t + 1) := gQ_ok h.1 rfl
  have w0 : Rw M (t + 1) 96 (T.map nI) := h.2.1
  have L : ∀ (k i f : Nat), i + k = j → k < f → LX7_placeOf_2 N f M t (nI x) (nI i) = some (nI j) := by
    intro k
    induction k with
    | zero =>
      intro i f hk hf
      obtain ⟨f, rfl⟩ : ∃ g, f = g + 1 := ⟨f - 1, by omega⟩
      have e : i = j := by omega
      subst e
      show BX7_placeOf_2 N (LX7_placeOf_2 N f) M t _ _ = _
      unfold BX7_placeOf_2
      simp only [q0, R_size w0, R_at w0, lg_nI (show i < 2 ^ 31 by omega), Option.bind_some, List.length_map]
      rw [if_neg (nI_ge hj1 (by omega)), if_pos]
      rw [List.getD_eq_getElem?_getD, List.getElem?_map, hj]
      rfl
    | succ k ih =>
      intro i f hk hf
      obtain ⟨f, rfl⟩ : ∃ g, f = g + 1 := ⟨f - 1, by omega⟩
      have q := ih (i + 1) f (by omega) (by omega)
      have hi : i < T.length := by omega
      show BX7_placeOf_2 N (LX7_placeOf_2 N f) M t _ _ = _
      unfold BX7_placeOf_2
      simp only [q0, R_size w0, R_at w0, lg_nI (show i < 2 ^ 31 by omega), Option.bind_some, List.length_map, nI_1]
      rw [if_neg (nI_ge hi (by omega)), if_neg]
      · exact q
      · rw [List.getD_eq_getElem?_getD, List.getElem?_map, List.getElem?_eq_getElem hi]
        intro e
        have w := (List.pairwise_iff_getElem.mp hT) i j hi hj1 (by omega)
        have e2 : T[i] = x := (nI_eq (by have := hb _ (List.getElem_mem hi); omega) (by have := hb _ (List.mem_of_getElem? hj); omega)).mp e
        rw [e2, hj2] at w
        exact ahd_ir w
  have q := L j 0 N (by omega) (by omega)
  simp only [fX7_placeOf, gC_ok h.1, Option.bind_some]
  exact q
theorem sub_cc (a b c : Int32) : a + c - (b + c) = a - b := by
  rw [Int32.sub_eq_add_neg, Int32.neg_add, Int32.add_assoc]
  rw [show c + (-b - c) = -b from by rw [Int32.sub_eq_add_neg, Int32.add_comm (-b), ← Int32.add_assoc, Int32.add_right_neg, Int32.zero_add]]
  exact (Int32.sub_eq_add_neg _ _).symm
theorem C_gapAt {M : Mm} {t : Nat} {S : St} {bar : Int32} (hI : Iv S) (h : TpT M t S (tape S bar)) {j x : Nat} (hj : (tape S bar)[j]? = some x) : fX7_gapAt M t (nI j) = some (gap S x) := by
  have hl : (sr S 2).length ≤ 96 := hI.L 2 (by decide)
  have ht := tape_len S bar
  have hj1 := (List.getElem?_eq_some_iff.mp hj).1
  have hx := mem_tape.mp (List.mem_of_getElem? hj)
  have q1 : gQ M 7 t 1 = some (t + 3) := gQ_ok h.1 rfl
  have w1 : Rw M (t + 3) 96 ((tape S bar).map (shn S)) := h.2.2.1
  rw [gap_tape hI hj]
  simp only [fX7_gapAt, gC_ok h.1, q1, R_at w1, Option.bind_some]
  by_cases z : j = 0
  · subst z
    rw [if_neg (by decide), if_pos rfl]
    rfl
  · obtain ⟨i, rfl⟩ : ∃ i, j = i + 1 := ⟨j - 1, by omega⟩
    have hi : i < (tape S bar).length := by omega
    have hb := mem_tape.mp (List.getElem_mem hi)
    rw [if_pos (show (0 : Int32) < nI (i + 1) from nI_lt (a := 0) (b := i + 1) (by omega) (by omega)), if_neg z, nI_pred, lg_nI (by omega), lg_nI (by omega), Nat.add_sub_cancel, List.getElem?_eq_getElem hi]
    have e1 : ((tape S bar).map (shn S)).getD (i + 1) 0 = shn S x := by
      rw [List.getD_eq_getElem?_getD, List.getElem?_map, hj]; rfl
    have e2 : ((tape S bar).map (shn S)).getD i 0 = shn S (tape S bar)[i] := by
      rw [List.getD_eq_getElem?_getD, List.getElem?_map, List.getElem?_eq_getElem hi]; rfl
    have e3 : shn S x - shn S (tape S bar)[i] = (sr S 3).getD x 0 - (sr S 3).getD (tape S bar)[i] 0 := by
      unfold shn
      rw [hx.2, hb.2]
      exact sub_cc _ _ _
    rw [e1, e2, e3]
    unfold fJ9_min_7cf53 gpV
    by_cases y : (sr S 3).getD x 0 - (sr S 3).getD (tape S bar)[i] 0 < 999
    · rw [if_pos y]; simp only [Option.bind_some]; rw [if_neg (Int32.not_le.mpr y)]
    · rw [if_neg y]; simp only [Option.bind_some]; rw [if_pos (Int32.not_lt.mp y)]
def rgV (S : St) (j : Nat) (w : Int32) : Int32 := if w = 0 then (sr S 2).getD j 0 else if w = 1 then (sr S 3).getD j 0 else if w = 2 then (sr S 4).getD j 0 else if w = 3 then shn S j else gap S j
abbrev isR (S : St) (a : Int32) : Prop := wi a 0 (nI (sr S 2).length - 1)
def sp_ringOf (σ : Sg) (a w : Int32) : An := if isR (g0 σ) a ∧ wi w 0 4 then (rgV (g0 σ) a.toNatClampNeg w, σ) else er σ 1
theorem I_ringOf {σ : Sg} (h : Ig σ) (a w : Int32) : Ig (sp_ringOf σ a w).2 := by
  unfold sp_ringOf
  by_cases g : isR (g0 σ) a ∧ wi w 0 4
  · rw [if_pos g]; exact h
  · rw [if_neg g]; exact h.er 1
theorem C_ringOf {N : Nat} {M : Mm} {σ : Sg} (h : RelC M σ) (hI : Ig σ) (hN : 2000 ≤ N) (a w : Int32) : DoC M (fX10_ringOf N M 0 a w) (sp_ringOf σ a w) := by
  have J := DoC.er h (a := 1) 1 rfl (by decide)
  have hl : (sr (g0 σ) 2).length ≤ 96 := hI.1.L 2 (by decide)
  unfold fX10_ringOf sp_ringOf jX10_ringOf_17
  simp only [h.c, C_isRing h, C_within, Option.bind_some, gd]
  by_cases g : isR (g0 σ) a ∧ wi w 0 4
  · rw [if_pos g, if_pos g.1, if_pos g.2]
    obtain ⟨j, hj, rfl⟩ := (wi_n (by omega)).mp g.1
    have hj2 : j < 2 ^ 31 := by omega
    rw [nI_clamp hj2]
    simp only [h.q0, h.q6, h.f2, h.f3, h.f4, R_at h.w2, R_at h.w3, R_at h.w4, N_shown h.2.1 hj2, lg_nI hj2, Option.bind_some]
    unfold rgV
    by_cases z0 : w = 0
    · rw [if_pos z0, if_pos z0]; exact DoC.same h
    rw [if_neg z0, if_neg z0]
    by_cases z1 : w = 1
    · rw [if_pos z1, if_pos z1]; exact DoC.same h
    rw [if_neg z1, if_neg z1]
    by_cases z2 : w = 2
    · rw [if_pos z2, if_pos z2]; exact DoC.same h
    rw [if_neg z2, if_neg z2]
    by_cases z3 : w = 3
    · rw [if_pos z3, if_pos z3]; exact DoC.same h
    rw [if_neg z3, if_neg z3]
    obtain ⟨M1, a1, a2, a3, a4⟩ := C_layT (N := N) h hI hN ((sr (g0 σ) 2).getD j 0)
    obtain ⟨i, hi, e⟩ := List.getElem_of_mem ((mem_tape (bar := (sr (g0 σ) 2).getD j 0)).mpr ⟨hj, rfl⟩)
    have ei : (tape (g0 σ) ((sr (g0 σ) 2).getD j 0))[i]? = some j := by rw [List.getElem?_eq_getElem hi, e]
    have ht := tape_len (g0 σ) ((sr (g0 σ) 2).getD j 0)
    rw [a1]
    simp only [a2.q6, Option.bind_some, C_place a4 (tape_pw hI.1 _) (by omega) (fun x hx => by have := (mem_tape.mp hx).1; omega) ei hN, C_gapAt hI.1 a4 ei]
    exact DoC.tr a3 (DoC.same a2)
  · rw [if_neg g]
    by_cases g1 : isR (g0 σ) a
    · rw [if_pos g1, if_neg (fun q => g ⟨g1, q⟩)]; exact J
    · rw [if_neg g1]; exact J
theorem T_ringOf {N : Nat} {M : Mm} {σ : Sg} (h : RelT M σ) (hI : Ig σ) (hN : 2000 ≤ N) (a w : Int32) : DoT M (fX11_ringOf N M 137 a w) (sp_ringOf σ a w) := by
  obtain ⟨F, A, k1, k2⟩ := id h
  have J := DoT.er h hI.2.2.1 (a := 1) 1 rfl (by decide)
  have hl : (sr (g0 σ) 2).length ≤ 96 := hI.1.L 2 (by decide)
  unfold fX11_ringOf sp_ringOf jX11_ringOf_20
  simp only [T_c k1, T_isRing k1 k2, show fX11_in M w.toInt64 0 4 = some (if wi w 0 4 then 1 else 0) from T_in M (a := 0) (b := 4) (by decide) (by decide), Option.bind_some, gd]
  by_cases g : isR (g0 σ) a ∧ wi w 0 4
  · rw [if_pos g, if_pos g.1, if_pos g.2]
    obtain ⟨j, hj, rfl⟩ := (wi_n (by omega)).mp g.1
    obtain ⟨v, hv, rfl⟩ := wi_ix (n := 4) (by decide) rfl g.2
    have hj2 : j < 2 ^ 31 := by omega
    rw [nI_clamp hj2]
    have e0 : fX11_ring M 137 (nI j) (nI 0) = some ((sr (g0 σ) 2).getD j 0) := T_rg k1 k2 hI hj (w := 0) (by decide)
    have e1 : fX11_ring M 137 (nI j) (nI 1) = some ((sr (g0 σ) 3).getD j 0) := T_rg k1 k2 hI hj (w := 1) (by decide)
    have e2 : fX11_ring M 137 (nI j) (nI 2) = some ((sr (g0 σ) 4).getD j 0) := T_rg k1 k2 hI hj (w := 2) (by decide)
    simp only [T_gap k1 k2 hI hN hj, T_shown k1 k2 hI hj, Option.bind_some]
    unfold rgV
    match v, hv with
    | 0, _ =>
      rw [if_neg (by decide), e0, if_pos (by decide)]; exact DoT.same h
    | 1, _ =>
      rw [if_neg (by decide), e1, if_neg (by decide), if_pos (by decide)]; exact DoT.same h
    | 2, _ =>
      rw [if_neg (by decide), e2, if_neg (by decide), if_neg (by decide), if_pos (by decide)]; exact DoT.same h
    | 3, _ =>
      rw [if_pos (by decide), if_pos (by decide), if_neg (by decide), if_neg (by decide), if_neg (by decide), if_pos (by decide)]; exact DoT.same h
    | 4, _ =>
      rw [if_pos (by decide), if_neg (by decide), if_neg (by decide), if_neg (by decide), if_neg (by decide), if_neg (by decide)]; exact DoT.same h
  · rw [if_neg g]
    by_cases g1 : isR (g0 σ) a
    · rw [if_pos g1, if_neg (fun q => g ⟨g1, q⟩)]; exact J
    · rw [if_neg g1]; exact J
