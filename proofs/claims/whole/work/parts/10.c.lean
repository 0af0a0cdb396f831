/-! rows -/
def rwN (nums : List Int32) (bar : Int32) : Nat → Nat → Sg → Nat × Sg
  | 0, c, σ => (c, σ)
  | f + 1, c, σ => if 2 * c + 1 < nums.length ∧ wi (nums.getD (2 * c) 0) 0 9999 ∧ wi (nums.getD (2 * c + 1) 0) 1 999 ∧ (sr (g0 σ) 2).length < 96 then rwN nums bar f (c + 1) (adR σ bar (nums.getD (2 * c) 0) (nums.getD (2 * c + 1) 0)) else (c, σ)
def sp_rows (σ : Sg) (bar s : Int32) : An := if isB (g0 σ) bar ∧ wi s 0 3 then (if (gs σ s.toNatClampNeg).1 = 0 then er σ 2 else (nI (rwN (gs σ s.toNatClampNeg).2 bar 40 0 σ).1, (rwN (gs σ s.toNatClampNeg).2 bar 40 0 σ).2)) else er σ 1
theorem adR_gs (σ : Sg) (a b c : Int32) : gs (adR σ a b c) = gs σ := rfl
theorem C_addPair {M : Mm} {σ : Sg} (h : RelC M σ) (hI : Ig σ) {j : Nat} (hj : j < 4) (bar : Int32) (c : Nat) (hc : c < 40) : (2 * c + 1 < (gs σ j).2.length ∧ wi ((gs σ j).2.getD (2 * c) 0) 0 9999 ∧ wi ((gs σ j).2.getD (2 * c + 1) 0) 1 999 ∧ (sr (g0 σ) 2).length < 96 → ∃ M', fX10_addPair M 0 bar (62 + 3 * j) (nI (2 * c)) = some (1, M') ∧ RelC M' (adR σ bar ((gs σ j).2.getD (2 * c) 0) ((gs σ j).2.getD (2 * c + 1) 0)) ∧ FrC M M') ∧ (¬ (2 * c + 1 < (gs σ j).2.length ∧ wi ((gs σ j).2.getD (2 * c) 0) 0 9999 ∧ wi ((gs σ j).2.getD (2 * c + 1) 0) 1 999 ∧ (sr (g0 σ) 2).length < 96) → fX10_addPair M 0 bar (62 + 3 * j) (nI (2 * c)) = some (0, M)) := by
  have hl := (hI.2.2.2.1 j hj).1
  have hr : (sr (g0 σ) 2).length ≤ 96 := hI.1.L 2 (by decide)
  obtain ⟨e1, e2⟩ := h.sh hj
  have en : ∀ k : Nat, k < 2 ^ 31 → fX4_numberAt M (62 + 3 * j) (nI k) = some ((gs σ j).2.getD k 0) := fun k hk => by
    simp only [fX4_numberAt, gC_ok e1, gQ_ok e1 (k := 0) rfl, R_at e2, lg_nI hk, Option.bind_some]
  have eh : ∀ k : Nat, k < 2 ^ 30 → fX4_hasNumber M (62 + 3 * j) (nI k) = some (if k < (gs σ j).2.length then 1 else 0) := fun k hk => by
    rw [C_has4 h hj hl]
    by_cases g : k < (gs σ j).2.length
    · rw [if_pos g, if_pos ((wi_n (by omega)).mpr ⟨k, g, rfl⟩)]
    · rw [if_neg g, if_neg]
      intro q
      obtain ⟨k2, g1, g2⟩ := (wi_n (by omega)).mp q
      have := (nI_eq (by omega) (by omega)).mp g2
      omega
  constructor
  · rintro ⟨g1, g2, g3, g4⟩
    obtain ⟨M', a1, a2, a3⟩ := C_addRing h hI.1 bar ((gs σ j).2.getD (2 * c) 0) ((gs σ j).2.getD (2 * c + 1) 0) g4
    refine ⟨M', ?_, a2, a3⟩
    simp only [fX10_addPair, h.c, nI_1, eh (2 * c) (by omega), eh (2 * c + 1) (by omega), en (2 * c) (by omega), en (2 * c + 1) (by omega), C_isTenth, C_isHeight, gd, if_pos (show 2 * c < (gs σ j).2.length by omega), if_pos g1, if_pos g2, if_pos g3, h.q0, a1, bd2_s, i10, Option.bind_some]
  · intro g
    simp only [fX10_addPair, h.c, nI_1, eh (2 * c) (by omega), eh (2 * c + 1) (by omega), en (2 * c) (by omega), en (2 * c + 1) (by omega), C_isTenth, C_isHeight, gd, h.q0, Option.bind_some]
    by_cases g1 : 2 * c + 1 < (gs σ j).2.length
    · rw [if_pos (show 2 * c < (gs σ j).2.length by omega), if_pos g1]
      by_cases g2 : wi ((gs σ j).2.getD (2 * c) 0) 0 9999
      · rw [if_pos g2]
        by_cases g3 : wi ((gs σ j).2.getD (2 * c + 1) 0) 1 999
        · rw [if_pos g3, C_addRing0 h _ _ _ (by have : ¬ (sr (g0 σ) 2).length < 96 := fun q => g ⟨g1, g2, g3, q⟩; omega)]
          rfl
        · rw [if_neg g3]
      · rw [if_neg g2]
    · rw [if_neg g1]
      split <;> rfl
theorem C_rowsL {N : Nat} {bar : Int32} {j : Nat} (hj : j < 4) : ∀ (k f : Nat) (M : Mm) (σ : Sg), RelC M σ → Ig σ → isB (g0 σ) bar → k ≤ 40 → k < f → DoC M (LX10_rows_40 N f M 0 bar (62 + 3 * j) (nI (40 - k))) (nI (rwN (gs σ j).2 bar k (40 - k) σ).1, (rwN (gs σ j).2 bar k (40 - k) σ).2) := by
  intro k
  induction k with
  | zero =>
    intro f M σ h hI hb h1 h2
    obtain ⟨f, rfl⟩ : ∃ g, f = g + 1 := ⟨f - 1, by omega⟩
    show DoC M (BX10_rows_40 N (LX10_rows_40 N f) M 0 bar (62 + 3 * j) (nI (40 - 0))) _
    unfold BX10_rows_40
    rw [if_pos (by decide)]
    exact DoC.same h
  | succ k ih =>
    intro f M σ h hI hb h1 h2
    obtain ⟨f, rfl⟩ : ∃ g, f = g + 1 := ⟨f - 1, by omega⟩
    show DoC M (BX10_rows_40 N (LX10_rows_40 N f) M 0 bar (62 + 3 * j) (nI (40 - (k + 1)))) _
    unfold BX10_rows_40
    obtain ⟨c, hc⟩ : ∃ c, c = 40 - (k + 1) := ⟨_, rfl⟩
    rw [← hc, if_neg (show ¬ (40 : Int32) ≤ nI c from nI_ge (a := c) (b := 40) (by omega) (by decide)), show (2 : Int32) * nI c = nI (2 * c) from pk_mul 2 c]
    obtain ⟨p1, p2⟩ := C_addPair h hI hj bar c (by omega)
    unfold rwN
    by_cases g : 2 * c + 1 < (gs σ j).2.length ∧ wi ((gs σ j).2.getD (2 * c) 0) 0 9999 ∧ wi ((gs σ j).2.getD (2 * c + 1) 0) 1 999 ∧ (sr (g0 σ) 2).length < 96
    · obtain ⟨M', a1, a2, a3⟩ := p1 g
      rw [if_pos g, a1]
      simp only [bd2_s, i10, nI_1]
      have q := ih f M' _ a2 (adR_I hI hb g.2.1 g.2.2.1 g.2.2.2) (adR_B _ _ _ hb) (by omega) (by omega)
      rw [adR_gs, show 40 - k = c + 1 by omega] at q
      obtain ⟨M4, d1, d2, d3⟩ := q
      exact ⟨M4, d1, d2, a3.trans d3⟩
    · rw [if_neg g, p2 g]
      simp only [bd2_s, if_true]
      exact DoC.same h
theorem C_rows {N : Nat} {M : Mm} {σ : Sg} (h : RelC M σ) (hI : Ig σ) (hN : 2000 ≤ N) (bar s : Int32) : DoC M (fX10_rows N M 0 bar s) (sp_rows σ bar s) := by
  have J := DoC.er h (a := 1) 1 rfl (by decide)
  unfold fX10_rows sp_rows jX10_rows_18
  simp only [h.c, Option.bind_some, C_sheetAt h, C_isBar h, gd, om_i]
  by_cases g : isB (g0 σ) bar ∧ wi s 0 3
  · rw [if_pos g, if_pos g.1, if_pos g.2]
    obtain ⟨j, hj, rfl⟩ := wi_ix (n := 3) (by decide) rfl g.2
    rw [nI_clamp (by omega)]
    obtain ⟨e1, e2⟩ := h.sh (show j < 4 by omega)
    have em : fX4_isMissing M (62 + 3 * j) = some (if (gs σ j).1 = 0 then 1 else 0) := by
      simp only [fX4_isMissing, gC_ok e1, gI_ok e1 (k := 1) rfl, Option.bind_some]
      split <;> rfl
    simp only [em, Option.bind_some, gd]
    by_cases z : (gs σ j).1 = 0
    · rw [if_pos z, if_pos z]
      exact DoC.er h 2 rfl (by decide)
    · rw [if_neg z, if_neg z]
      exact C_rowsL (show j < 4 by omega) 40 N M σ h hI g.1 (by omega) (by omega)
  · rw [if_neg g]
    by_cases g1 : isB (g0 σ) bar
    · rw [if_pos g1, if_neg (fun q => g ⟨g1, q⟩)]; exact J
    · rw [if_neg g1]; exact J
theorem T_rowsL {N : Nat} {bar : Int32} {j : Nat} (hj : j < 4) : ∀ (k f : Nat) (M : Mm) (σ : Sg), RelT M σ → Ig σ → isB (g0 σ) bar → k ≤ 40 → k < f → DoT M (LX11_rows_41 N f M 137 bar (nI j) (nI (40 - k)) (nI (2 * (40 - k)))) (nI (rwN (gs σ j).2 bar k (40 - k) σ).1, (rwN (gs σ j).2 bar k (40 - k) σ).2) := by
  intro k
  induction k with
  | zero =>
    intro f M σ h hI hb h1 h2
    obtain ⟨F, A, k1, k2⟩ := id h
    have hl := (hI.2.2.2.1 j hj).1
    have r := k2.2.2.2.2.1 j hj
    have r6 : aI M 0 144 (nI j) = some (nI (gs σ j).2.length) := by rw [← r.2.1]; exact T_get k1 6 (by decide) (show j < 4 from hj)
    obtain ⟨f, rfl⟩ : ∃ g, f = g + 1 := ⟨f - 1, by omega⟩
    show DoT M (BX11_rows_41 N (LX11_rows_41 N f) M 137 bar (nI j) (nI (40 - 0)) (nI (2 * (40 - 0)))) _
    unfold BX11_rows_41
    simp only [T_ref k1 (k := 7) (x := 144) rfl, r6, Option.bind_some, nI_1]
    rw [if_pos (nI_le (by omega) (by omega))]
    exact DoT.same h
  | succ k ih =>
    intro f M σ h hI hb h1 h2
    obtain ⟨F, A, k1, k2⟩ := id h
    have hl := (hI.2.2.2.1 j hj).1
    have hr : (sr (g0 σ) 2).length ≤ 96 := hI.1.L 2 (by decide)
    have r := k2.2.2.2.2.1 j hj
    have r6 : aI M 0 144 (nI j) = some (nI (gs σ j).2.length) := by rw [← r.2.1]; exact T_get k1 6 (by decide) (show j < 4 from hj)
    obtain ⟨f, rfl⟩ : ∃ g, f = g + 1 := ⟨f - 1, by omega⟩
    obtain ⟨c, hc⟩ : ∃ c, c = 40 - (k + 1) := ⟨_, rfl⟩
    show DoT M (BX11_rows_41 N (LX11_rows_41 N f) M 137 bar (nI j) (nI (40 - (k + 1))) (nI (2 * (40 - (k + 1))))) _
    rw [← hc]
    unfold BX11_rows_41
    simp only [T_ref k1 (k := 7) (x := 144) rfl, T_ref k1 (k := 8) (x := 145) rfl, r6, Option.bind_some, nI_1]
    unfold rwN
    by_cases g1 : 2 * c + 1 < (gs σ j).2.length
    · rw [if_neg (nI_ge g1 (by omega))]
      have ex : (40 : Int32) * nI j + nI (2 * c) = nI (40 * j + 2 * c) := by
        rw [show (40 : Int32) * nI j = nI (40 * j) from pk_mul 40 j, nI_add]
      have r7 : aI M 0 145 (nI (40 * j + 2 * c)) = some ((gs σ j).2.getD (2 * c) 0) := by rw [← r.2.2 (2 * c) (by omega)]; exact T_get k1 7 (by decide) (show 40 * j + 2 * c < 160 by omega)
      have r8 : aI M 0 145 (nI (40 * j + 2 * c + 1)) = some ((gs σ j).2.getD (2 * c + 1) 0) := by rw [← r.2.2 (2 * c + 1) (by omega)]; exact T_get k1 7 (by decide) (show 40 * j + (2 * c + 1) < 160 by omega)
      simp only [ex, nI_1, r7, r8, T_mayRing, gd, T_q0 k1, (T_cnt k1 k2).2.1, Option.bind_some]
      by_cases g2 : wi ((gs σ j).2.getD (2 * c) 0) 0 9999 ∧ wi ((gs σ j).2.getD (2 * c + 1) 0) 1 999
      · rw [if_pos g2]
        by_cases g4 : (sr (g0 σ) 2).length < 96
        · obtain ⟨M', a1, a2, a3⟩ := T_rings k1 k2 hI.1 bar ((gs σ j).2.getD (2 * c) 0) ((gs σ j).2.getD (2 * c + 1) 0) g4
          rw [if_neg (fun q => by have := (nI_eq (a := (sr (g0 σ) 2).length) (b := 96) (by omega) (by decide)).mp q; omega), if_pos ⟨g1, g2.1, g2.2, g4⟩, a1]
          simp only [Option.bind_some]
          have q := ih f M' _ a2 (adR_I hI hb g2.1 g2.2 g4) (adR_B _ _ _ hb) (by omega) (by omega)
          rw [adR_gs, show 40 - k = c + 1 by omega, show 2 * (c + 1) = 2 * c + 2 by omega] at q
          rw [show nI (2 * c) + (2 : Int32) = nI (2 * c + 2) from nI_add _ 2]
          obtain ⟨M4, d1, d2, d3⟩ := q
          exact ⟨M4, d1, d2, a3.trans d3⟩
        · rw [if_pos (by rw [show (sr (g0 σ) 2).length = 96 by omega]; rfl), if_neg (fun q => g4 q.2.2.2)]
          exact DoT.same h
      · rw [if_neg g2, if_neg (fun q => g2 ⟨q.2.1, q.2.2.1⟩)]
        exact DoT.same h
    · rw [if_pos (nI_le (by omega) (by omega)), if_neg (fun q => g1 q.1)]
      exact DoT.same h
theorem T_rows {N : Nat} {M : Mm} {σ : Sg} (h : RelT M σ) (hI : Ig σ) (hN : 2000 ≤ N) (bar s : Int32) : DoT M (fX11_rows N M 137 bar s) (sp_rows σ bar s) := by
  obtain ⟨F, A, k1, k2⟩ := id h
  have J := DoT.er h hI.2.2.1 (a := 1) 1 rfl (by decide)
  unfold fX11_rows sp_rows jX11_rows_15
  simp only [T_c k1, Option.bind_some, T_isBar k1 k2, T_isSheet, gd]
  by_cases g : isB (g0 σ) bar ∧ wi s 0 3
  · rw [if_pos g, if_pos g.1, if_pos g.2]
    obtain ⟨j, hj, rfl⟩ := wi_ix (n := 3) (by decide) rfl g.2
    rw [nI_clamp (by omega)]
    have r5 : aI M 0 143 (nI j) = some (gs σ j).1 := by rw [← (k2.2.2.2.2.1 j (by omega)).1]; exact T_get k1 5 (by decide) (show j < 4 by omega)
    simp only [T_ref k1 (k := 6) (x := 143) rfl, r5, Option.bind_some]
    by_cases z : (gs σ j).1 = 0
    · rw [if_pos z, if_pos z]
      exact DoT.er h hI.2.2.1 2 rfl (by decide)
    · rw [if_neg z, if_neg z]
      exact T_rowsL (show j < 4 by omega) 40 N M σ h hI g.1 (by omega) (by omega)
  · rw [if_neg g]
    by_cases g1 : isB (g0 σ) bar
    · rw [if_pos g1, if_neg (fun q => g ⟨g1, q⟩)]; exact J
    · rw [if_neg g1]; exact J
