/-! rings in the reference -/
theorem T_rg {M : Mm} {F : Nat → Int32} {A : Nat → Nat → Int32} {σ : Sg} (h : TwAt M F A) (r : TwR F A σ) (hI : Ig σ) {j w : Nat} (hj : j < (sr (g0 σ) 2).length) (hw : w < 3) : fX11_ring M 137 (nI j) (nI w) = some ((sr (g0 σ) (2 + w)).getD j 0) := by
  have hl : (sr (g0 σ) 2).length ≤ 96 := hI.1.L 2 (by decide)
  obtain ⟨l3, l4, -⟩ := hI.1.2.2.2.1
  have e : (18 : Int32) + (3 : Int32) * nI j + nI w = nI (18 + 3 * j + w) := by
    rw [show (3 : Int32) * nI j = nI (3 * j) from pk_mul 3 j, show (18 : Int32) + nI (3 * j) = nI (18 + 3 * j) from nI_add 18 _, nI_add]
  have hx : A 0 (18 + 3 * j + w) = (sr (g0 σ) (2 + w)).getD j 0 := by
    match w, hw with
    | 0, _ =>
      have q := r.1.2.1 2 (by decide) j hj
      rw [← q]; rfl
    | 1, _ =>
      have q := r.1.2.1 3 (by decide) j (by omega)
      rw [← q, show tix 3 j = 18 + 3 * j + 1 by show 19 + 3 * j = _; omega]
    | 2, _ =>
      have q := r.1.2.1 4 (by decide) j (by omega)
      rw [← q, show tix 4 j = 18 + 3 * j + 2 by show 20 + 3 * j = _; omega]
  simp only [fX11_ring, T_c h, T_q0 h, e, T_m h (show 18 + 3 * j + w < 950 by omega), hx, Option.bind_some]
/-- ring r is ahead of ring s (of one bar) -/
abbrev ahd (S : St) (r s : Nat) : Prop := (sr S 3).getD r 0 < (sr S 3).getD s 0 ∨ ((sr S 3).getD r 0 = (sr S 3).getD s 0 ∧ r < s)
theorem T_isAhead {M : Mm} {F : Nat → Int32} {A : Nat → Nat → Int32} {σ : Sg} (h : TwAt M F A) (r : TwR F A σ) (hI : Ig σ) {j k : Nat} (hj : j < (sr (g0 σ) 2).length) (hk : k < (sr (g0 σ) 2).length) : fX11_isAhead M 137 (nI j) (nI k) = some (if ahd (g0 σ) j k then 1 else 0) := by
  have hl : (sr (g0 σ) 2).length ≤ 96 := hI.1.L 2 (by decide)
  have ej : fX11_ring M 137 (nI j) 1 = some ((sr (g0 σ) 3).getD j 0) := T_rg h r hI hj (w := 1) (by decide)
  have ek : fX11_ring M 137 (nI k) 1 = some ((sr (g0 σ) 3).getD k 0) := T_rg h r hI hk (w := 1) (by decide)
  simp only [fX11_isAhead, T_c h, ej, ek, Option.bind_some]
  by_cases a : (sr (g0 σ) 3).getD j 0 < (sr (g0 σ) 3).getD k 0
  · rw [if_pos a, if_pos (show ahd (g0 σ) j k from Or.inl a)]
  rw [if_neg a]
  by_cases b : (sr (g0 σ) 3).getD j 0 = (sr (g0 σ) 3).getD k 0
  · rw [if_pos b]
    by_cases c : j < k
    · rw [if_neg (nI_ge c (by omega)), if_pos (show ahd (g0 σ) j k from Or.inr ⟨b, c⟩)]
    · rw [if_pos (nI_le (by omega) (by omega)), if_neg (fun q => q.elim a (fun z => c z.2))]
  · rw [if_neg b, if_neg (fun q => q.elim a (fun z => b z.1))]
