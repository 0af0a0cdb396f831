/-! trace, count -/
theorem wi_n {x : Int32} {n : Nat} (hn : n < 2 ^ 30) : wi x 0 (nI n - 1) ↔ ∃ j, j < n ∧ x = nI j := by
  have e : (nI n - 1).toInt = (n : Int) - 1 := by
    exact pk_sub_toInt (a := n) (b := 1) hn (Nat.le_of_ble_eq_true rfl)
  constructor
  · intro ⟨h1, h2⟩
    have g1 := Int32.le_iff_toInt_le.mp (Int32.not_lt.mp h2)
    rw [e] at g1
    obtain ⟨j, hj, rfl⟩ := nI_of h1
    rw [nI_toInt hj] at g1
    exact ⟨j, by omega, rfl⟩
  · rintro ⟨j, hj, rfl⟩
    refine ⟨nI_pos (by omega), fun q => ?_⟩
    have g1 := Int32.lt_iff_toInt_lt.mp q
    rw [e, nI_toInt (by omega)] at g1
    omega
