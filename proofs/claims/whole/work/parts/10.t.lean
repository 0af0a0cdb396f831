/-! what holds of every state stays: sheet, put -/
theorem I_put {σ : Sg} (h : Ig σ) (s i v : Int32) : Ig (sp_put σ s i v).2 := by
  unfold sp_put
  by_cases g : wi s 0 3
  · rw [if_pos g]
    obtain ⟨t, ht, rfl⟩ := wi_ix (n := 3) (by decide) rfl g
    rw [nI_clamp (show t < 2 ^ 31 by omega)]
    by_cases z : (gs σ t).1 = 0
    · rw [if_pos z]; exact h.er 2
    · rw [if_neg z]
      have q := h.2.2.2.1 t (by omega)
      by_cases y : wi i 0 (nI (gs σ t).2.length - 1)
      · rw [if_pos y]
        exact I_shS h (by rw [List.length_set]; exact q.1) (fun w => absurd w z) q.2.2
      · rw [if_neg y]; exact h.er 1
  · rw [if_neg g]; exact h.er 1
theorem I_sheet {σ : Sg} (h : Ig σ) (s b n : Int32) : Ig (sp_sheet σ s b n).2 := by
  unfold sp_sheet
  by_cases g : wi s 0 3
  · rw [if_pos g]
    by_cases z : b = 0
    · rw [if_pos z]; exact I_shS h (by simp) (fun _ => rfl) (Or.inl rfl)
    · rw [if_neg z]
      by_cases y : b = 8 ∨ b = 16 ∨ b = 32
      · rw [if_pos y]
        by_cases x : n < 0
        · rw [if_pos x]; exact h.er 3
        · rw [if_neg x]
          by_cases w : n ≤ 40
          · rw [if_pos w]
            obtain ⟨k, hk, rfl⟩ := nI_of2 (M := 40) (n := 40) (by decide) x w
            rw [nI_clamp (by omega)]
            exact I_shS h (by simpa using hk) (fun q => absurd q z) (Or.inr y)
          · rw [if_neg w]; exact h.er 1
      · rw [if_neg y]; exact h.er 1
  · rw [if_neg g]; exact h.er 1
