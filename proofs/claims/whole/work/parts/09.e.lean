/-! trace, count -/
theorem wi_n {x : Int32} {n : Nat} (hn : n < 2 ^ 30) : wi x 0 (nI n - 1) ↔ ∃ j, j < n ∧ x = nI j := by
  have e : (nI n - 1).toInt = (n : Int) - 1 := by
    exact pk_sub_toInt (a := n) (b := 1) hn (Nat.le_of_ble_eq_true rfl)
  constructor
  · intro ⟨h1, h2⟩
    have g1 := Int32.le_iff_toInt_le.mp (Int32.not_lt.mp h2)
    rw [e] at g1
    obtain ⟨j, hj, rfl⟩ := nI_of h1
    rw [nI_toInt hj] at g1
    exact ⟨j, by omega, rfl⟩
  · rintro ⟨j, hj, rfl⟩
    refine ⟨nI_pos (by omega), fun q => ?_⟩
    have g1 := Int32.lt_iff_toInt_lt.mp q
    rw [e, nI_toInt (by omega)] at g1
    omega
def sp_trace (σ : Sg) (a : Int32) : An := if wi a 0 (nI (gt σ).length - 1) then ((gt σ).getD a.toNatClampNeg 0, σ) else er σ 2
theorem RelC.v {M : Mm} {σ : Sg} (h : RelC M σ) : gQ M 9 129 0 = some 130 := gQ_ok h.2.2.2.2.2.1.1 rfl
theorem RelC.wv {M : Mm} {σ : Sg} (h : RelC M σ) : Rw M 130 40 (gt σ) := h.2.2.2.2.2.1.2
theorem C_trace {M : Mm} {σ : Sg} (h : RelC M σ) (hI : Ig σ) (a : Int32) : DoC M (fX10_trace M 0 a) (sp_trace σ a) := by
  have hl := hI.2.2.2.2
  unfold fX10_trace sp_trace
  simp only [h.c, Option.bind_some, h.q8, h.v, R_size h.wv]
  by_cases h1 : wi a 0 (nI (gt σ).length - 1)
  · rw [C_in h1, if_pos h1]
    obtain ⟨j, hj, rfl⟩ := (wi_n (by omega)).mp h1
    simp only [Option.bind_some, i10, R_at h.wv, lg_nI (show j < 2 ^ 31 by omega)]
    rw [nI_clamp (by omega)]
    exact DoC.same h
  · rw [C_out h1, if_neg h1]
    simp only [Option.bind_some, i00]
    exact DoC.er h 2 rfl (by decide)
theorem T_trace {M : Mm} {σ : Sg} (h : RelT M σ) (hI : Ig σ) (a : Int32) : DoT M (fX11_trace M 137 a) (sp_trace σ a) := by
  have hl := hI.2.2.2.2
  obtain ⟨F, A, h1, r⟩ := id h
  unfold fX11_trace sp_trace
  simp only [T_c h1, Option.bind_some, T_int h1 (k := 21) rfl, r.2.2.2.2.2.1]
  by_cases g1 : wi a 0 (nI (gt σ).length - 1)
  · rw [T_yes M (a := 0) (b := nI (gt σ).length - 1) (by decide) rfl g1, if_pos g1]
    obtain ⟨j, hj, rfl⟩ := (wi_n (by omega)).mp g1
    simp only [Option.bind_some, i10, T_ref h1 (k := 20) (x := 152) rfl]
    rw [show aI M 0 152 (nI j) = some (A 14 j) from T_get h1 14 (by decide) (show j < 40 by omega), r.2.2.2.2.2.2 j hj, nI_clamp (by omega)]
    exact DoT.same h
  · rw [T_no M (a := 0) (b := nI (gt σ).length - 1) (by decide) rfl g1, if_neg g1]
    simp only [Option.bind_some, i00]
    exact DoT.er h hI.2.2.1 2 rfl (by decide)
def cnS (σ : Sg) (j : Nat) : Int32 := [nI (sr (g0 σ) 1).length, nI (sr (g0 σ) 2).length, nI (sk (g0 σ)).length, nI (sr (g0 σ) 6).length, nI (sr (g0 σ) 7).length, nI (sr (g0 σ) 10).length, nI (sr (g0 σ) 5).length, nI (sr (g0 σ) 12).length, nI (gt σ).length, sz (g0 σ)].getD j 0
def sp_count (σ : Sg) (a : Int32) : An := if wi a 0 9 then (cnS σ a.toNatClampNeg, σ) else er σ 1
theorem C_count {M : Mm} {σ : Sg} (h : RelC M σ) (a : Int32) : DoC M (fX10_count M 0 a) (sp_count σ a) := by
  unfold fX10_count sp_count
  simp only [h.c, Option.bind_some, h.q0, h.q8, h.f1, h.f5, h.f6, h.f7, h.f10, h.f12, fX6_rings, fX6_countings, h.2.1.c, h.f2, h.2.1.n, h.2.1.z, h.v, R_size h.wv, R_size h.w1, R_size h.w2, R_size h.w5, R_size h.w6, R_size h.w7, R_size h.w10, R_size h.w12]
  by_cases h1 : wi a 0 9
  · rw [if_pos h1]
    obtain ⟨j, hj, rfl⟩ := wi_ix (n := 9) (by decide) rfl h1
    rw [nI_clamp (by omega)]
    match j, hj with
    | 0, _ => rw [if_pos (show nI 0 = (0 : Int32) from rfl)]; exact DoC.same h
    | 1, _ => rw [if_neg (show ¬ nI 1 = (0 : Int32) by decide), if_pos (show nI 1 = (1 : Int32) from rfl)]; exact DoC.same h
    | 2, _ => rw [if_neg (show ¬ nI 2 = (0 : Int32) by decide), if_neg (show ¬ nI 2 = (1 : Int32) by decide), if_pos (show nI 2 = (2 : Int32) from rfl)]; exact DoC.same h
    | 3, _ => rw [if_neg (show ¬ nI 3 = (0 : Int32) by decide), if_neg (show ¬ nI 3 = (1 : Int32) by decide), if_neg (show ¬ nI 3 = (2 : Int32) by decide), if_pos (show nI 3 = (3 : Int32) from rfl)]; exact DoC.same h
    | 4, _ => rw [if_neg (show ¬ nI 4 = (0 : Int32) by decide), if_neg (show ¬ nI 4 = (1 : Int32) by decide), if_neg (show ¬ nI 4 = (2 : Int32) by decide), if_neg (show ¬ nI 4 = (3 : Int32) by decide), if_pos (show nI 4 = (4 : Int32) from rfl)]; exact DoC.same h
    | 5, _ => rw [if_neg (show ¬ nI 5 = (0 : Int32) by decide), if_neg (show ¬ nI 5 = (1 : Int32) by decide), if_neg (show ¬ nI 5 = (2 : Int32) by decide), if_neg (show ¬ nI 5 = (3 : Int32) by decide), if_neg (show ¬ nI 5 = (4 : Int32) by decide), if_pos (show nI 5 = (5 : Int32) from rfl)]; exact DoC.same h
    | 6, _ => rw [if_neg (show ¬ nI 6 = (0 : Int32) by decide), if_neg (show ¬ nI 6 = (1 : Int32) by decide), if_neg (show ¬ nI 6 = (2 : Int32) by decide), if_neg (show ¬ nI 6 = (3 : Int32) by decide), if_neg (show ¬ nI 6 = (4 : Int32) by decide), if_neg (show ¬ nI 6 = (5 : Int32) by decide), if_pos (show nI 6 = (6 : Int32) from rfl)]; exact DoC.same h
    | 7, _ => rw [if_neg (show ¬ nI 7 = (0 : Int32) by decide), if_neg (show ¬ nI 7 = (1 : Int32) by decide), if_neg (show ¬ nI 7 = (2 : Int32) by decide), if_neg (show ¬ nI 7 = (3 : Int32) by decide), if_neg (show ¬ nI 7 = (4 : Int32) by decide), if_neg (show ¬ nI 7 = (5 : Int32) by decide), if_neg (show ¬ nI 7 = (6 : Int32) by decide), if_pos (show nI 7 = (7 : Int32) from rfl)]; exact DoC.same h
    | 8, _ => rw [if_neg (show ¬ nI 8 = (0 : Int32) by decide), if_neg (show ¬ nI 8 = (1 : Int32) by decide), if_neg (show ¬ nI 8 = (2 : Int32) by decide), if_neg (show ¬ nI 8 = (3 : Int32) by decide), if_neg (show ¬ nI 8 = (4 : Int32) by decide), if_neg (show ¬ nI 8 = (5 : Int32) by decide), if_neg (show ¬ nI 8 = (6 : Int32) by decide), if_neg (show ¬ nI 8 = (7 : Int32) by decide), if_pos (show nI 8 = (8 : Int32) from rfl)]; exact DoC.same h
    | 9, _ => rw [if_neg (show ¬ nI 9 = (0 : Int32) by decide), if_neg (show ¬ nI 9 = (1 : Int32) by decide), if_neg (show ¬ nI 9 = (2 : Int32) by decide), if_neg (show ¬ nI 9 = (3 : Int32) by decide), if_neg (show ¬ nI 9 = (4 : Int32) by decide), if_neg (show ¬ nI 9 = (5 : Int32) by decide), if_neg (show ¬ nI 9 = (6 : Int32) by decide), if_neg (show ¬ nI 9 = (7 : Int32) by decide), if_neg (show ¬ nI 9 = (8 : Int32) by decide), if_pos (show nI 9 = (9 : Int32) from rfl)]; exact DoC.same h
  · rw [if_neg h1]
    have ne : ∀ k : Nat, k ≤ 9 → ¬ a = nI k := fun k hk e => h1 (by rw [e]; exact ⟨nI_pos (by omega), nI_nlt (a := 9) (b := k) hk (by decide)⟩)
    rw [if_neg (show ¬ a = (0 : Int32) from ne 0 (by decide)), if_neg (show ¬ a = (1 : Int32) from ne 1 (by decide)), if_neg (show ¬ a = (2 : Int32) from ne 2 (by decide)), if_neg (show ¬ a = (3 : Int32) from ne 3 (by decide)), if_neg (show ¬ a = (4 : Int32) from ne 4 (by decide)), if_neg (show ¬ a = (5 : Int32) from ne 5 (by decide)), if_neg (show ¬ a = (6 : Int32) from ne 6 (by decide)), if_neg (show ¬ a = (7 : Int32) from ne 7 (by decide)), if_neg (show ¬ a = (8 : Int32) from ne 8 (by decide)), if_neg (show ¬ a = (9 : Int32) from ne 9 (by decide))]
    exact DoC.er h 1 rfl (by decide)
theorem T_count {M : Mm} {σ : Sg} (h : RelT M σ) (hI : Ig σ) (a : Int32) : DoT M (fX11_count M 137 a) (sp_count σ a) := by
  obtain ⟨F, A, h1, r⟩ := id h
  obtain ⟨c0, c1, c2, c3, c4, c5, c6, c7, c8⟩ := T_cnt h1 r
  unfold fX11_count sp_count
  simp only [T_c h1, Option.bind_some, T_q0 h1, T_int h1 (k := 21) rfl, r.2.2.2.2.2.1, c8]
  by_cases g1 : wi a 0 9
  · rw [if_pos g1]
    obtain ⟨j, hj, rfl⟩ := wi_ix (n := 9) (by decide) rfl g1
    rw [nI_clamp (by omega)]
    match j, hj with
    | 0, _ => rw [T_yes M (a := 0) (b := 7) (by decide) (by decide) (by decide)]; simp only [Option.bind_some, i10]; rw [show aI M 0 138 (nI 0) = _ from c0]; exact DoT.same h
    | 1, _ => rw [T_yes M (a := 0) (b := 7) (by decide) (by decide) (by decide)]; simp only [Option.bind_some, i10]; rw [show aI M 0 138 (nI 1) = _ from c1]; exact DoT.same h
    | 2, _ => rw [T_yes M (a := 0) (b := 7) (by decide) (by decide) (by decide)]; simp only [Option.bind_some, i10]; rw [show aI M 0 138 (nI 2) = _ from c2]; exact DoT.same h
    | 3, _ => rw [T_yes M (a := 0) (b := 7) (by decide) (by decide) (by decide)]; simp only [Option.bind_some, i10]; rw [show aI M 0 138 (nI 3) = _ from c3]; exact DoT.same h
    | 4, _ => rw [T_yes M (a := 0) (b := 7) (by decide) (by decide) (by decide)]; simp only [Option.bind_some, i10]; rw [show aI M 0 138 (nI 4) = _ from c4]; exact DoT.same h
    | 5, _ => rw [T_yes M (a := 0) (b := 7) (by decide) (by decide) (by decide)]; simp only [Option.bind_some, i10]; rw [show aI M 0 138 (nI 5) = _ from c5]; exact DoT.same h
    | 6, _ => rw [T_yes M (a := 0) (b := 7) (by decide) (by decide) (by decide)]; simp only [Option.bind_some, i10]; rw [show aI M 0 138 (nI 6) = _ from c6]; exact DoT.same h
    | 7, _ => rw [T_yes M (a := 0) (b := 7) (by decide) (by decide) (by decide)]; simp only [Option.bind_some, i10]; rw [show aI M 0 138 (nI 7) = _ from c7]; exact DoT.same h
    | 8, _ => rw [T_no M (a := 0) (b := 7) (by decide) (by decide) (by decide)]; simp only [Option.bind_some, i00]; rw [if_pos (show nI 8 = (8 : Int32) from rfl)]; exact DoT.same h
    | 9, _ => rw [T_no M (a := 0) (b := 7) (by decide) (by decide) (by decide)]; simp only [Option.bind_some, i00]; rw [if_neg (show ¬ nI 9 = (8 : Int32) by decide), if_pos (show nI 9 = (9 : Int32) from rfl)]; exact DoT.same h
  · rw [if_neg g1]
    have ne : ∀ k : Nat, k ≤ 9 → ¬ a = nI k := fun k hk e => g1 (by rw [e]; exact ⟨nI_pos (by omega), nI_nlt (a := 9) (b := k) hk (by decide)⟩)
    have g2 : ¬ wi a 0 7 := fun q => by
      obtain ⟨j, hj, rfl⟩ := wi_ix (n := 7) (by decide) rfl q
      exact ne j (by omega) rfl
    rw [T_no M (a := 0) (b := 7) (by decide) (by decide) g2]
    simp only [Option.bind_some, if_true]
    rw [if_neg (show ¬ a = (8 : Int32) from ne 8 (by decide)), if_neg (show ¬ a = (9 : Int32) from ne 9 (by decide))]
    exact DoT.er h hI.2.2.1 1 rfl (by decide)
