/-! onTape (class) -/
def tpG (σ : Sg) (bar : Int32) : List Int32 := (tpS (g0 σ) bar (sr (g0 σ) 2).length).1
def sp_onTape (σ : Sg) (bar i : Int32) : An := if isB (g0 σ) bar ∧ ¬ i < 0 then (if i.toNatClampNeg < (tpG σ bar).length then ((tpG σ bar).getD i.toNatClampNeg 0, σ) else er σ 2) else er σ 1
theorem DoC.tr {M M1 : Mm} {r : Option (Int32 × Mm)} {a : An} (h : FrC M M1) (g : DoC M1 r a) : DoC M r a := by
  obtain ⟨M', e1, e2, e3⟩ := g
  exact ⟨M', e1, e2, h.trans e3⟩
theorem C_layG {N : Nat} {M : Mm} {σ : Sg} (h : RelC M σ) (hI : Ig σ) (hN : 2000 ≤ N) (bar : Int32) : ∃ M', fX7_lay N M 109 1 bar = some M' ∧ RelC M' σ ∧ FrC M M' ∧ Tp M' 109 (tpS (g0 σ) bar (sr (g0 σ) 2).length).1 (tpS (g0 σ) bar (sr (g0 σ) 2).length).2.1 (tpS (g0 σ) bar (sr (g0 σ) 2).length).2.2 := by
  have tp : TapeAt M 109 := h.2.2.2.2.2.2.1.2.1
  obtain ⟨M1, a1, a2, a3⟩ := C_lay (N := N) (t := 109) (bar := bar) (by decide) (by decide) hN (hI.1.L 2 (by decide)) h.2.1 tp
  exact ⟨M1, a1, h.tape (a3.mono (fun k q => by omega)) (tp.tp a2 a3), a3.frC (fun k q => by omega), a2⟩
theorem C_onTape {N : Nat} {M : Mm} {σ : Sg} (h : RelC M σ) (hI : Ig σ) (hN : 2000 ≤ N) (bar i : Int32) : DoC M (fX10_onTape N M 0 bar i) (sp_onTape σ bar i) := by
  have J := DoC.er h (a := 1) 1 rfl (by decide)
  obtain ⟨M1, a1, a2, a3, a4⟩ := C_layG (N := N) h hI hN bar
  have hl : (tpG σ bar).length ≤ 96 := Nat.le_trans (tpS_len _ _ _) (hI.1.L 2 (by decide))
  have q0 : gQ M1 7 109 0 = some 110 := gQ_ok a4.1 rfl
  have w0 : Rw M1 110 96 (tpG σ bar) := a4.2.1
  unfold fX10_onTape sp_onTape jX10_onTape_12
  simp only [h.c, h.q0, h.q6, C_isBar h, a1, a2.q6, q0, R_size w0, R_at w0, Option.bind_some, gd]
  by_cases g : isB (g0 σ) bar ∧ ¬ i < 0
  · rw [if_pos g, if_pos g.1, if_pos (Int32.not_lt.mp g.2)]
    obtain ⟨j, hj, rfl⟩ := nI_of g.2
    rw [nI_clamp hj, lg_nI hj]
    by_cases z : j < (tpG σ bar).length
    · rw [if_pos (nI_lt z (by omega)), if_pos z]
      exact DoC.tr a3 (DoC.same a2)
    · rw [if_neg (nI_nlt (by omega) hj), if_neg z]
      exact DoC.tr a3 (DoC.er a2 2 rfl (by decide))
  · rw [if_neg g]
    by_cases g1 : isB (g0 σ) bar
    · rw [if_pos g1, if_neg (fun q => g ⟨g1, Int32.not_lt.mpr q⟩)]; exact J
    · rw [if_neg g1]; exact J
