/-! every script -/
theorem pure_main {L : Nat} (hL : L ≤ 384) (xs : Nat → Int32) : ∃ M9, fL_law 2000 L xs [] = some (1, M9) := by
  obtain ⟨M4, M8, e4, l4, e8, c, t⟩ := start_ok
  unfold run8 at e8
  rw [e4, Option.bind_some] at e8
  unfold run4 at e4
  obtain ⟨M9, h⟩ := lw_loop (N := 2000) (xs := xs) (Nat.le_refl _) hL 64 0 M8 sg0 (by omega) (by omega) c t I_0
  rw [nI_0] at h
  refine ⟨M9, ?_⟩
  unfold fL_law
  rw [Option.bind_some, List.length_nil, e4, Option.bind_some, Option.bind_some, l4, e8, Option.bind_some]
  exact h
