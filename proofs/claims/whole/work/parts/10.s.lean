/-! what holds of every state stays: move, counting -/
theorem I_shS {σ : Sg} (h : Ig σ) {i : Nat} {b : Int32} {ys : List Int32} (h1 : ys.length ≤ 40) (h2 : b = 0 → ys = []) (h3 : b = 0 ∨ b = 8 ∨ b = 16 ∨ b = 32) : Ig (shS σ i b ys) := by
  refine ⟨h.1, h.2.1, h.2.2.1, fun j hj => ?_, h.2.2.2.2⟩
  show (if j = i then (b, ys) else gs σ j).2.length ≤ 40 ∧ ((if j = i then (b, ys) else gs σ j).1 = 0 → (if j = i then (b, ys) else gs σ j).2 = []) ∧ ((if j = i then (b, ys) else gs σ j).1 = 0 ∨ (if j = i then (b, ys) else gs σ j).1 = 8 ∨ (if j = i then (b, ys) else gs σ j).1 = 16 ∨ (if j = i then (b, ys) else gs σ j).1 = 32)
  by_cases e : j = i
  · rw [if_pos e]; exact ⟨h1, h2, h3⟩
  · rw [if_neg e]; exact h.2.2.2.1 j hj
theorem I_move {σ : Sg} (h : Ig σ) (s i t j n : Int32) : Ig (sp_move σ s i t j n).2 := by
  unfold sp_move
  by_cases g : wi s 0 3 ∧ wi t 0 3
  · rw [if_pos g]
    obtain ⟨t, ht, rfl⟩ := wi_ix (n := 3) (by decide) rfl g.2
    rw [nI_clamp (show t < 2 ^ 31 by omega)]
    by_cases z : (gs σ s.toNatClampNeg).1 = 0 ∨ (gs σ t).1 = 0
    · rw [if_pos z]; exact h.er 2
    · rw [if_neg z]
      by_cases y : (gs σ s.toNatClampNeg).1 = (gs σ t).1
      · rw [if_pos y]
        by_cases x : okM (gs σ s.toNatClampNeg).2.length i n ∧ okM (gs σ t).2.length j n
        · rw [if_pos x]
          have q := h.2.2.2.1 t (by omega)
          exact I_shS h (by rw [mvL_len]; exact q.1) (fun w => absurd (Or.inr w) z) q.2.2
        · rw [if_neg x]; exact h.er 1
      · rw [if_neg y]; exact h.er 5
  · rw [if_neg g]; exact h.er 1
