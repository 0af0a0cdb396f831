/-! taped (reference) -/
def nAh (S : St) (bar : Int32) (x : Nat) : Nat → Nat
  | 0 => 0
  | k + 1 => if (sr S 2).getD k 0 = bar ∧ ahd S k x then nAh S bar x k + 1 else nAh S bar x k
theorem nAh_le (S : St) (bar : Int32) (x : Nat) : ∀ k, nAh S bar x k ≤ k
  | 0 => Nat.le_refl 0
  | k + 1 => by
    have h := nAh_le S bar x k
    unfold nAh
    by_cases z : (sr S 2).getD k 0 = bar ∧ ahd S k x
    · rw [if_pos z]; omega
    · rw [if_neg z]; omega
def tpd (S : St) (bar i : Int32) : Nat → Nat → Int32
  | 0, _ => -1
  | k + 1, x => if (sr S 2).getD x 0 = bar ∧ nI (nAh S bar x (sr S 2).length) = i then nI x else tpd S bar i k (x + 1)
theorem T_tapedL {N : Nat} {M : Mm} {F : Nat → Int32} {A : Nat → Nat → Int32} {σ : Sg} (h : TwAt M F A) (r : TwR F A σ) (hI : Ig σ) {bar i : Int32} {x : Nat} (hx : x < (sr (g0 σ) 2).length) {K : Mm → Nat → Int32 → Int32 → Int32 → Option Int32} : ∀ (k f : Nat), k ≤ (sr (g0 σ) 2).length → k < f → LX11_taped_31 N K f M 137 bar i (nI x) (nI (nAh (g0 σ) bar x ((sr (g0 σ) 2).length - k))) (nI ((sr (g0 σ) 2).length - k)) = if nI (nAh (g0 σ) bar x (sr (g0 σ) 2).length) = i then some (nI x) else K M 137 bar i (nI (x + 1)) := by
  have hl : (sr (g0 σ) 2).length ≤ 96 := hI.1.L 2 (by decide)
  intro k
  induction k with
  | zero =>
    intro f hk hf
    obtain ⟨f, rfl⟩ : ∃ g, f = g + 1 := ⟨f - 1, by omega⟩
    show BX11_taped_31 N K (LX11_taped_31 N K f) M 137 bar i _ _ _ = _
    unfold BX11_taped_31
    simp only [T_q0 h, (T_cnt h r).2.1, Option.bind_some, Nat.sub_zero, nI_1]
    rw [if_pos (nI_le (Nat.le_refl _) (by omega))]
  | succ k ih =>
    intro f hk hf
    obtain ⟨f, rfl⟩ : ∃ g, f = g + 1 := ⟨f - 1, by omega⟩
    obtain ⟨c, hc⟩ : ∃ c, c = (sr (g0 σ) 2).length - (k + 1) := ⟨_, rfl⟩
    rw [← hc]
    have e1 : (sr (g0 σ) 2).length - k = c + 1 := by omega
    have q := ih f (by omega) (by omega)
    rw [e1] at q
    have er : fX11_ring M 137 (nI c) 0 = some ((sr (g0 σ) 2).getD c 0) := T_rg h r hI (show c < (sr (g0 σ) 2).length by omega) (w := 0) (by decide)
    have z0 : ∀ y : Int32, y + 0 = y := fun y => Int32.add_zero y
    show BX11_taped_31 N K (LX11_taped_31 N K f) M 137 bar i _ _ _ = _
    unfold BX11_taped_31
    simp only [T_q0 h, (T_cnt h r).2.1, er, T_isAhead h r hI (show c < (sr (g0 σ) 2).length by omega) hx, Option.bind_some, nI_1, gd, z0]
    rw [if_neg (nI_ge (by omega) (by omega))]
    rw [show nAh (g0 σ) bar x (c + 1) = if (sr (g0 σ) 2).getD c 0 = bar ∧ ahd (g0 σ) c x then nAh (g0 σ) bar x c + 1 else nAh (g0 σ) bar x c from rfl] at q
    by_cases b1 : (sr (g0 σ) 2).getD c 0 = bar
    · rw [if_pos b1]
      by_cases b2 : ahd (g0 σ) c x
      · rw [if_pos b2]
        rw [if_pos (show (sr (g0 σ) 2).getD c 0 = bar ∧ ahd (g0 σ) c x from ⟨b1, b2⟩)] at q
        exact q
      · rw [if_neg b2]
        rw [if_neg (show ¬ ((sr (g0 σ) 2).getD c 0 = bar ∧ ahd (g0 σ) c x) from fun z => b2 z.2)] at q
        exact q
    · rw [if_neg b1]
      rw [if_neg (show ¬ ((sr (g0 σ) 2).getD c 0 = bar ∧ ahd (g0 σ) c x) from fun z => b1 z.1)] at q
      exact q
theorem T_tapedO {N : Nat} {M : Mm} {F : Nat → Int32} {A : Nat → Nat → Int32} {σ : Sg} (h : TwAt M F A) (r : TwR F A σ) (hI : Ig σ) (hN : 2000 ≤ N) {bar i : Int32} : ∀ (k f : Nat), k ≤ (sr (g0 σ) 2).length → k < f → LX11_taped_2 N f M 137 bar i (nI ((sr (g0 σ) 2).length - k)) = some (tpd (g0 σ) bar i k ((sr (g0 σ) 2).length - k)) := by
  have hl : (sr (g0 σ) 2).length ≤ 96 := hI.1.L 2 (by decide)
  intro k
  induction k with
  | zero =>
    intro f hk hf
    obtain ⟨f, rfl⟩ : ∃ g, f = g + 1 := ⟨f - 1, by omega⟩
    show BX11_taped_2 N (LX11_taped_2 N f) M 137 bar i _ = _
    unfold BX11_taped_2
    simp only [T_q0 h, (T_cnt h r).2.1, Option.bind_some, Nat.sub_zero]
    rw [if_pos (nI_le (Nat.le_refl _) (by omega))]
    rfl
  | succ k ih =>
    intro f hk hf
    obtain ⟨f, rfl⟩ : ∃ g, f = g + 1 := ⟨f - 1, by omega⟩
    obtain ⟨c, hc⟩ : ∃ c, c = (sr (g0 σ) 2).length - (k + 1) := ⟨_, rfl⟩
    rw [← hc]
    have e1 : (sr (g0 σ) 2).length - k = c + 1 := by omega
    have q := ih f (by omega) (by omega)
    rw [e1] at q
    have er : fX11_ring M 137 (nI c) 0 = some ((sr (g0 σ) 2).getD c 0) := T_rg h r hI (show c < (sr (g0 σ) 2).length by omega) (w := 0) (by decide)
    have w := T_tapedL (N := N) h r hI (bar := bar) (i := i) (x := c) (by omega) (K := LX11_taped_2 N f) (sr (g0 σ) 2).length N (Nat.le_refl _) (by omega)
    rw [Nat.sub_self] at w
    have w' : LX11_taped_31 N (LX11_taped_2 N f) N M 137 bar i (nI c) 0 0 = _ := w
    show BX11_taped_2 N (LX11_taped_2 N f) M 137 bar i _ = _
    unfold BX11_taped_2
    simp only [T_q0 h, (T_cnt h r).2.1, er, Option.bind_some, nI_1]
    rw [if_neg (nI_ge (by omega) (by omega)), w', q]
    rw [show tpd (g0 σ) bar i (k + 1) c = if (sr (g0 σ) 2).getD c 0 = bar ∧ nI (nAh (g0 σ) bar c (sr (g0 σ) 2).length) = i then nI c else tpd (g0 σ) bar i k (c + 1) from rfl]
    by_cases b1 : (sr (g0 σ) 2).getD c 0 = bar
    · rw [if_pos b1]
      by_cases b2 : nI (nAh (g0 σ) bar c (sr (g0 σ) 2).length) = i
      · rw [if_pos b2, if_pos ⟨b1, b2⟩]
      · rw [if_neg b2, if_neg (fun z => b2 z.2)]
    · rw [if_neg b1, if_neg (fun z => b1 z.1)]
