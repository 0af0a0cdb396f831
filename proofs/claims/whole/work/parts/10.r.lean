/-! what holds of every state stays: image, restore, as, onTape, move -/
theorem I_image {σ : Sg} (h : Ig σ) : Ig (sp_image σ).2 := ⟨h.1, h.1, h.2.2⟩
theorem I_restore {σ : Sg} (h : Ig σ) : Ig (sp_restore σ).2 := by
  unfold sp_restore
  by_cases g : gi σ = 0
  · rw [if_pos g]; exact h.er 2
  · rw [if_neg g]; exact ⟨h.2.1, h.2.1, h.2.2⟩
theorem I_as {σ : Sg} (h : Ig σ) (a k : Int32) : Ig (sp_as σ a k).2 := by
  unfold sp_as
  by_cases g : wi a 0 (nI (sk (g0 σ)).length - 1) ∧ wi k 0 7
  · rw [if_pos g]
    by_cases u : und (((sk (g0 σ)).getD a.toNatClampNeg []).getD 1 0) k
    · rw [if_pos u]; exact h
    · rw [if_neg u]; exact h.er 5
  · rw [if_neg g]; exact h.er 1
theorem I_onTape {σ : Sg} (h : Ig σ) (bar i : Int32) : Ig (sp_onTape σ bar i).2 := by
  unfold sp_onTape
  by_cases g : isB (g0 σ) bar ∧ ¬ i < 0
  · rw [if_pos g]
    by_cases u : i.toNatClampNeg < (tpG σ bar).length
    · rw [if_pos u]; exact h
    · rw [if_neg u]; exact h.er 2
  · rw [if_neg g]; exact h.er 1
theorem T_taped {N : Nat} {M : Mm} {F : Nat → Int32} {A : Nat → Nat → Int32} {σ : Sg} (h : TwAt M F A) (r : TwR F A σ) (hI : Ig σ) (hN : 2000 ≤ N) (bar i : Int32) : fX11_taped N M 137 bar i = some (tpd (g0 σ) bar i (sr (g0 σ) 2).length 0) := by
  have hl : (sr (g0 σ) 2).length ≤ 96 := hI.1.L 2 (by decide)
  have q := T_tapedO (N := N) h r hI hN (bar := bar) (i := i) (sr (g0 σ) 2).length N (Nat.le_refl _) (by omega)
  rw [Nat.sub_self] at q
  simp only [fX11_taped, T_c h, Option.bind_some]
  exact q
