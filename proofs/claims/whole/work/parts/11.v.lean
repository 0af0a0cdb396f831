/-! chosen, paid in the reference -/
def ScA (A : Nat → Nat → Int32) (S : St) (c : List Int32) (m n : Nat) : Prop := ∀ i, i < n → ∀ k, k ≤ m → A 12 (41 * i + k) = sc S c m i k
theorem T_fs3 {N : Nat} {K : Mm → Nat → Int32 → Int32 → Int32 → Option Mm} {F : Nat → Int32} {σ : Sg} (hI : Ig σ) {j m x : Nat} (hm : m ≤ 40) (hx : x < (sr (g0 σ) 6).length) : ∀ (k i f : Nat) (M : Mm) (A : Nat → Nat → Int32), i + k = m + 1 → k < f → TwAt M F A → (∀ s, s ≤ m → A 11 s = mtS (g0 σ) ((sk (g0 σ)).getD j []) ((sr (g0 σ) 6).getD x 0) s) → ScA A (g0 σ) ((sk (g0 σ)).getD j []) m x → (∀ s, s < i → A 12 (41 * x + s) = sc (g0 σ) ((sk (g0 σ)).getD j []) m x s) → ∃ M' A', LX11_findScores_89 N K f M 137 (nI j) (nI m) (nI x) (tgA (g0 σ) ((sk (g0 σ)).getD j []) ((sr (g0 σ) 6).getD x 0) m) (nI i) = K M' 137 (nI j) (nI m) (nI (x + 1)) ∧ TwAt M' F A' ∧ ScA A' (g0 σ) ((sk (g0 σ)).getD j []) m (x + 1) ∧ (∀ k, k ≠ 12 → A' k = A k) ∧ FrT M M' := by
  have hl : (sr (g0 σ) 6).length ≤ 6 := hI.1.L 6 (by decide)
  intro k
  induction k with
  | zero =>
    intro i f M A hk hf h hA hS hs
    obtain ⟨f, rfl⟩ : ∃ g, f = g + 1 := ⟨f - 1, by omega⟩
    have e : i = m + 1 := by omega
    subst e
    refine ⟨M, A, ?_, h, fun y hy s hs' => ?_, fun _ _ => rfl, Of.rf⟩
    · show BX11_findScores_89 N K (LX11_findScores_89 N K f) M 137 _ _ _ _ _ = _
      unfold BX11_findScores_89
      rw [if_pos (nI_lt (by omega) (by omega)), nI_1]
    · by_cases e : y = x
      · subst e; exact hs s (by omega)
      · exact hS y (by omega) s hs'
  | succ k ih =>
    intro i f M A hk hf h hA hS hs
    obtain ⟨f, rfl⟩ : ∃ g, f = g + 1 := ⟨f - 1, by omega⟩
    have q18 : gQ M 11 137 18 = some 150 := T_ref h rfl
    have q17 : gQ M 11 137 17 = some 149 := T_ref h rfl
    have e1 : aI M 0 149 (nI i) = some (mtS (g0 σ) ((sk (g0 σ)).getD j []) ((sr (g0 σ) 6).getD x 0) i) := by
      rw [← hA i (by omega)]; exact T_get h 11 (by decide) (show i < 41 by omega)
    have ex : (41 : Int32) * nI x + nI i = nI (41 * x + i) := by
      rw [show (41 : Int32) * nI x = nI (41 * x) from pk_mul 41 x, nI_add]
    obtain ⟨M1, a1, a2, a3⟩ := T_put h 12 (by decide) (j := 41 * x + i) (show 41 * x + i < 246 by omega) (sc (g0 σ) ((sk (g0 σ)).getD j []) m x i)
    have a1' : sI M 0 150 (nI (41 * x + i)) (nI m * mtS (g0 σ) ((sk (g0 σ)).getD j []) ((sr (g0 σ) 6).getD x 0) i - tgA (g0 σ) ((sk (g0 σ)).getD j []) ((sr (g0 σ) 6).getD x 0) m) = some M1 := a1
    obtain ⟨M2, A2, b1, b2, b3, b4, b5⟩ := ih (i + 1) f M1 _ (by omega) (by omega) a2 hA (fun y hy s hs' => by
      show upd (A 12) (41 * x + i) _ (41 * y + s) = _
      rw [pk_un (by omega)]; exact hS y hy s hs') (fun s hs' => by
      show upd (A 12) (41 * x + i) _ (41 * x + s) = _
      by_cases e : s = i
      · subst e; exact pk_us
      · rw [pk_un (by omega)]; exact hs s (by omega))
    refine ⟨M2, A2, ?_, b2, b3, fun k hk => by rw [b4 k hk, u2_n hk], a3.trans b5⟩
    show BX11_findScores_89 N K (LX11_findScores_89 N K f) M 137 _ _ _ _ _ = _
    unfold BX11_findScores_89
    simp only [q18, q17, e1, ex, a1', Option.bind_some, nI_1]
    rw [if_neg (nI_nlt (by omega) (by omega))]
    exact b1
theorem T_fs2 {N : Nat} {K : Mm → Nat → Int32 → Int32 → Int32 → Option Mm} {F : Nat → Int32} {σ : Sg} (hI : Ig σ) (hN : 2000 ≤ N) {j m x : Nat} (hj : j < (sk (g0 σ)).length) (hm : m ≤ 40) (hx : x < (sr (g0 σ) 6).length) : ∀ (k i f : Nat) (M : Mm) (A : Nat → Nat → Int32), i + k = m + 1 → k < f → TwAt M F A → TwR F A σ → RdA A (g0 σ) (sr (g0 σ) 2).length → (∀ s, s < i → A 11 s = mtS (g0 σ) ((sk (g0 σ)).getD j []) ((sr (g0 σ) 6).getD x 0) s) → ScA A (g0 σ) ((sk (g0 σ)).getD j []) m x → ∃ M' A', LX11_findScores_22 N K f M 137 (nI j) (nI m) (nI x) (tgA (g0 σ) ((sk (g0 σ)).getD j []) ((sr (g0 σ) 6).getD x 0) (i - 1)) (nI i) = K M' 137 (nI j) (nI m) (nI (x + 1)) ∧ TwAt M' F A' ∧ ScA A' (g0 σ) ((sk (g0 σ)).getD j []) m (x + 1) ∧ (∀ k, k ≠ 11 → k ≠ 12 → A' k = A k) ∧ FrT M M' := by
  have hl : (sr (g0 σ) 6).length ≤ 6 := hI.1.L 6 (by decide)
  intro k
  induction k with
  | zero =>
    intro i f M A hk hf h r hd hA hS
    obtain ⟨f, rfl⟩ : ∃ g, f = g + 1 := ⟨f - 1, by omega⟩
    have e : i = m + 1 := by omega
    subst e
    obtain ⟨M1, A1, a1, a2, a3, a4, a5⟩ := T_fs3 (N := N) (K := K) (F := F) hI (j := j) hm hx (m + 1) 0 N M A (by omega) (by omega) h (fun s hs => hA s (by omega)) hS (fun s hs => by omega)
    refine ⟨M1, A1, ?_, a2, a3, fun k _ hk => a4 k hk, a5⟩
    show BX11_findScores_22 N K (LX11_findScores_22 N K f) M 137 _ _ _ _ _ = _
    unfold BX11_findScores_22
    rw [if_pos (nI_lt (by omega) (by omega)), Nat.add_sub_cancel]
    exact a1
  | succ k ih =>
    intro i f M A hk hf h r hd hA hS
    obtain ⟨f, rfl⟩ : ∃ g, f = g + 1 := ⟨f - 1, by omega⟩
    have q17 : gQ M 11 137 17 = some 149 := T_ref h rfl
    have f4 : fX11_of M 137 (nI j) 4 = some (((sk (g0 σ)).getD j []).getD 5 0) := T_of h r hI.1.K hj (w := 4) (by decide)
    have t1 := r.1.2.1 6 (by decide) x hx
    have el : aI M 0 138 ((366 : Int32) + nI x) = some ((sr (g0 σ) 6).getD x 0) := by
      rw [show (366 : Int32) + nI x = nI (366 + x) from nI_add 366 x, T_m h (by omega), show 366 + x = tix 6 x from by show _ = 366 + 1 * x; omega, t1]
    obtain ⟨M1, a1, a2, a3⟩ := T_put h 11 (by decide) (j := i) (show i < 41 by omega) (mtS (g0 σ) ((sk (g0 σ)).getD j []) ((sr (g0 σ) 6).getD x 0) i)
    have a1' : sI M 0 149 (nI i) (nI (mt (g0 σ) (cL ((sk (g0 σ)).getD j []) 2) ((sr (g0 σ) 6).getD x 0) (cL ((sk (g0 σ)).getD j []) 4) (nI i * ((sk (g0 σ)).getD j []).getD 5 0))) = some M1 := a1
    obtain ⟨M2, A2, b1, b2, b3, b4, b5⟩ := ih (i + 1) f M1 _ (by omega) (by omega) a2 (r.s rfl rfl rfl rfl rfl rfl rfl) hd (fun s hs => by
      show upd (A 11) i _ s = _
      by_cases e : s = i
      · subst e; exact pk_us
      · rw [pk_un e]; exact hA s (by omega)) hS
    refine ⟨M2, A2, ?_, b2, b3, fun k h1 h2 => by rw [b4 k h1 h2, u2_n h1], a3.trans b5⟩
    show BX11_findScores_22 N K (LX11_findScores_22 N K f) M 137 _ _ _ _ _ = _
    unfold BX11_findScores_22
    simp only [q17, T_q0 h, el, f4, T_slid h r hd hI hN hj, a1', Option.bind_some, nI_1, Int32.add_zero]
    rw [if_neg (nI_nlt (by omega) (by omega))]
    cases i with
    | zero =>
      rw [if_pos (show nI 0 ≤ (0 : Int32) by decide)]
      exact b1
    | succ i =>
      rw [if_neg (nI_nle (by omega) (by omega))]
      have q17' : gQ M1 11 137 17 = some 149 := T_ref a2 rfl
      have e1 : aI M1 0 149 (nI (i + 1)) = some (mtS (g0 σ) ((sk (g0 σ)).getD j []) ((sr (g0 σ) 6).getD x 0) (i + 1)) := by
        have w := T_get a2 11 (by decide) (j := i + 1) (show i + 1 < 41 by omega)
        rw [show u2 A 11 (i + 1) (mtS (g0 σ) ((sk (g0 σ)).getD j []) ((sr (g0 σ) 6).getD x 0) (i + 1)) 11 (i + 1) = mtS (g0 σ) ((sk (g0 σ)).getD j []) ((sr (g0 σ) 6).getD x 0) (i + 1) from pk_us] at w
        exact w
      simp only [q17', e1, Option.bind_some]
      exact b1
theorem T_fs1 {N : Nat} {F : Nat → Int32} {σ : Sg} (hI : Ig σ) (hN : 2000 ≤ N) {j m : Nat} (hj : j < (sk (g0 σ)).length) (hm : m ≤ 40) : ∀ (k x f : Nat) (M : Mm) (A : Nat → Nat → Int32), x + k = (sr (g0 σ) 6).length → k < f → TwAt M F A → TwR F A σ → RdA A (g0 σ) (sr (g0 σ) 2).length → ScA A (g0 σ) ((sk (g0 σ)).getD j []) m x → ∃ M' A', LX11_findScores_6 N f M 137 (nI j) (nI m) (nI x) = some M' ∧ TwAt M' F A' ∧ TwR F A' σ ∧ ScA A' (g0 σ) ((sk (g0 σ)).getD j []) m (sr (g0 σ) 6).length ∧ FrT M M' := by
  have hl : (sr (g0 σ) 6).length ≤ 6 := hI.1.L 6 (by decide)
  intro k
  induction k with
  | zero =>
    intro x f M A hk hf h r hd hS
    obtain ⟨f, rfl⟩ : ∃ g, f = g + 1 := ⟨f - 1, by omega⟩
    have e : x = (sr (g0 σ) 6).length := by omega
    subst e
    refine ⟨M, A, ?_, h, r, hS, Of.rf⟩
    show BX11_findScores_6 N (LX11_findScores_6 N f) M 137 _ _ _ = _
    unfold BX11_findScores_6
    simp only [T_q0 h, (T_cnt h r).2.2.2.1, Option.bind_some]
    rw [if_pos (nI_le (Nat.le_refl _) (by omega))]
  | succ k ih =>
    intro x f M A hk hf h r hd hS
    obtain ⟨f, rfl⟩ : ∃ g, f = g + 1 := ⟨f - 1, by omega⟩
    obtain ⟨M1, A1, a1, a2, a3, a4, a5⟩ := T_fs2 (N := N) (K := LX11_findScores_6 N f) (F := F) hI hN hj hm (show x < (sr (g0 σ) 6).length by omega) (m + 1) 0 N M A (by omega) (by omega) h r hd (fun s hs => by omega) hS
    obtain ⟨M2, A2, b1, b2, b3, b4, b5⟩ := ih (x + 1) f M1 A1 (by omega) (by omega) a2 (r.s (a4 0 (by decide) (by decide)) (a4 1 (by decide) (by decide)) (a4 2 (by decide) (by decide)) (a4 5 (by decide) (by decide)) (a4 6 (by decide) (by decide)) (a4 7 (by decide) (by decide)) (a4 14 (by decide) (by decide))) (by
      unfold RdA
      rw [a4 3 (by decide) (by decide), a4 4 (by decide) (by decide)]
      exact hd) a3
    refine ⟨M2, A2, ?_, b2, b3, b4, a5.trans b5⟩
    show BX11_findScores_6 N (LX11_findScores_6 N f) M 137 _ _ _ = _
    unfold BX11_findScores_6
    simp only [T_q0 h, (T_cnt h r).2.2.2.1, Option.bind_some]
    rw [if_neg (nI_ge (by omega) (by omega))]
    exact a1.trans b1
theorem T_fs {N : Nat} {M : Mm} {σ : Sg} (h : RelT M σ) (hI : Ig σ) (hN : 2000 ≤ N) {j m : Nat} (hj : j < (sk (g0 σ)).length) (hm : m ≤ 40) : ∃ M' F A', fX11_findScores N M 137 (nI j) (nI m) = some M' ∧ TwAt M' F A' ∧ TwR F A' σ ∧ ScA A' (g0 σ) ((sk (g0 σ)).getD j []) m (sr (g0 σ) 6).length ∧ FrT M M' := by
  have hl : (sr (g0 σ) 6).length ≤ 6 := hI.1.L 6 (by decide)
  obtain ⟨F, A, k1, k2⟩ := id h
  obtain ⟨M1, F1, A1, a1, a2, a3, a4, a5⟩ := T_readAll (N := N) h hI hN
  obtain ⟨M2, A2, b1, b2, b3, b4, b5⟩ := T_fs1 (N := N) (F := F1) hI hN hj hm (sr (g0 σ) 6).length 0 N M1 A1 (by omega) (by omega) a2 a3 a4 (fun i hi => by omega)
  refine ⟨M2, F1, A2, ?_, b2, b3, b4, a5.trans b5⟩
  simp only [fX11_findScores, T_c k1, a1, Option.bind_some]
  exact b1
theorem T_greatL {N : Nat} {M : Mm} {F : Nat → Int32} {A : Nat → Nat → Int32} {σ : Sg} {c : List Int32} {m s : Nat} (h : TwAt M F A) (r : TwR F A σ) (hI : Ig σ) (hm : m ≤ 40) (hs : s ≤ m) (hS : ScA A (g0 σ) c m (sr (g0 σ) 6).length) : ∀ (k i f : Nat), i + 1 + k = (sr (g0 σ) 6).length → k < f → LX11_greatest_4 N f M 137 (nI s) (nI (bsK (g0 σ) c m s i)) (nI (i + 1)) = some (nI (bsK (g0 σ) c m s ((sr (g0 σ) 6).length - 1))) := by
  have hl : (sr (g0 σ) 6).length ≤ 6 := hI.1.L 6 (by decide)
  have q18 : gQ M 11 137 18 = some 150 := T_ref h rfl
  have gt : ∀ x, x < (sr (g0 σ) 6).length → aI M 0 150 ((41 : Int32) * nI x + nI s) = some (sc (g0 σ) c m x s) := by
    intro x hx
    rw [show (41 : Int32) * nI x = nI (41 * x) from pk_mul 41 x, nI_add, ← hS x hx s hs]
    exact T_get h 12 (by decide) (show 41 * x + s < 246 by omega)
  intro k
  induction k with
  | zero =>
    intro i f hk hf
    obtain ⟨f, rfl⟩ : ∃ g, f = g + 1 := ⟨f - 1, by omega⟩
    show BX11_greatest_4 N (LX11_greatest_4 N f) M 137 _ _ _ = _
    unfold BX11_greatest_4
    simp only [T_q0 h, (T_cnt h r).2.2.2.1, Option.bind_some]
    rw [if_pos (nI_le (by omega) (by omega)), show (sr (g0 σ) 6).length - 1 = i by omega]
  | succ k ih =>
    intro i f hk hf
    obtain ⟨f, rfl⟩ : ∃ g, f = g + 1 := ⟨f - 1, by omega⟩
    have q := ih (i + 1) f (by omega) (by omega)
    have le := bsK_le (g0 σ) c m s i
    show BX11_greatest_4 N (LX11_greatest_4 N f) M 137 _ _ _ = _
    unfold BX11_greatest_4
    simp only [T_q0 h, (T_cnt h r).2.2.2.1, q18, gt (i + 1) (by omega), gt (bsK (g0 σ) c m s i) (by omega), Option.bind_some, nI_1]
    rw [if_neg (nI_ge (by omega) (by omega))]
    rw [show bsK (g0 σ) c m s (i + 1) = if sc (g0 σ) c m (bsK (g0 σ) c m s i) s < sc (g0 σ) c m (i + 1) s then i + 1 else bsK (g0 σ) c m s i from rfl] at q
    by_cases z : sc (g0 σ) c m (bsK (g0 σ) c m s i) s < sc (g0 σ) c m (i + 1) s
    · rw [if_neg (Int32.not_le.mpr z)]
      rw [if_pos z] at q
      exact q
    · rw [if_pos (Int32.not_lt.mp z)]
      rw [if_neg z] at q
      exact q
theorem T_great {N : Nat} {M : Mm} {F : Nat → Int32} {A : Nat → Nat → Int32} {σ : Sg} {c : List Int32} {m s : Nat} (h : TwAt M F A) (r : TwR F A σ) (hI : Ig σ) (hN : 2000 ≤ N) (hm : m ≤ 40) (hs : s ≤ m) (hS : ScA A (g0 σ) c m (sr (g0 σ) 6).length) (h0 : 0 < (sr (g0 σ) 6).length) : fX11_greatest N M 137 (nI s) = some (nI (bsK (g0 σ) c m s ((sr (g0 σ) 6).length - 1))) := by
  have hl : (sr (g0 σ) 6).length ≤ 6 := hI.1.L 6 (by decide)
  have q := T_greatL (N := N) h r hI hm hs hS ((sr (g0 σ) 6).length - 1) 0 N (by omega) (by omega)
  simp only [fX11_greatest, T_c h, Option.bind_some]
  exact q
theorem T_chosen {N : Nat} {M : Mm} {σ : Sg} (h : RelT M σ) (hI : Ig σ) (hN : 2000 ≤ N) (a m : Int32) : DoT M (fX11_chosen N M 137 a m) (sp_chosen σ a m) := by
  obtain ⟨F, A, k1, k2⟩ := id h
  have J := DoT.er h hI.2.2.1 (a := 1) 1 rfl (by decide)
  have J2 := DoT.er h hI.2.2.1 (a := 2) 2 rfl (by decide)
  have hk : (sk (g0 σ)).length ≤ 12 := hI.1.K
  have hl : (sr (g0 σ) 6).length ≤ 6 := hI.1.L 6 (by decide)
  unfold fX11_chosen sp_chosen
  simp only [T_c k1, T_q0 k1, (T_cnt k1 k2).2.2.2.1, T_isAsked k1 k2, Option.bind_some, gd]
  by_cases g : okA (g0 σ) a m
  · rw [if_pos g, if_pos g]
    obtain ⟨j, hj, rfl⟩ := (wi_n (by omega)).mp g.1
    obtain ⟨x, x0, x1, rfl⟩ := wi_ix1 (n := 40) (by decide) rfl g.2
    rw [nI_clamp (show j < 2 ^ 31 by omega), nI_clamp (show x < 2 ^ 31 by omega)]
    by_cases z : (sr (g0 σ) 6).length = 0
    · rw [if_pos (show nI (sr (g0 σ) 6).length = 0 by rw [z]; rfl), if_pos z]; exact J2
    · rw [if_neg (nI_ne0 (by omega) (by omega)), if_neg z]
      obtain ⟨M1, F1, A1, a1, a2, a3, a4, a5⟩ := T_fs (N := N) h hI hN hj x1
      have gr : fX11_greatest N M1 137 0 = _ := T_great (s := 0) a2 a3 hI hN x1 (Nat.zero_le _) a4 (by omega)
      simp only [a1, gr, Option.bind_some]
      exact ⟨M1, rfl, ⟨F1, A1, a2, a3⟩, a5⟩
  · rw [if_neg g, if_neg g]; exact J
theorem T_paidL {N : Nat} {M : Mm} {F : Nat → Int32} {A : Nat → Nat → Int32} {σ : Sg} {c : List Int32} {m : Nat} {p : Int32} (h : TwAt M F A) (r : TwR F A σ) (hI : Ig σ) (hN : 2000 ≤ N) (hm : m ≤ 40) (hm0 : 1 ≤ m) (hS : ScA A (g0 σ) c m (sr (g0 σ) 6).length) (h0 : 0 < (sr (g0 σ) 6).length) : ∀ (k i f : Nat), i + k = m → k < f → LX11_paid_67 N f M 137 (nI m) p (gm (g0 σ) c m ((sr (g0 σ) 6).length - 1) 0) (nI (slC (gm (g0 σ) c m ((sr (g0 σ) 6).length - 1)) (gm (g0 σ) c m ((sr (g0 σ) 6).length - 1) 0) i)) (nI (i + 1)) = some (pdV (g0 σ) c m p, M) := by
  have hl : (sr (g0 σ) 6).length ≤ 6 := hI.1.L 6 (by decide)
  have q18 : gQ M 11 137 18 = some 150 := T_ref h rfl
  intro k
  induction k with
  | zero =>
    intro i f hk hf
    obtain ⟨f, rfl⟩ : ∃ g, f = g + 1 := ⟨f - 1, by omega⟩
    have e : i = m := by omega
    subst e
    have le := slC_le (gm (g0 σ) c i ((sr (g0 σ) 6).length - 1)) (gm (g0 σ) c i ((sr (g0 σ) 6).length - 1) 0) i
    show BX11_paid_67 N (LX11_paid_67 N f) M 137 _ _ _ _ _ = _
    unfold BX11_paid_67
    rw [if_pos (nI_lt (by omega) (by omega)), T_part hN (by omega) (by omega) (by omega)]
    rfl
  | succ k ih =>
    intro i f hk hf
    obtain ⟨f, rfl⟩ : ∃ g, f = g + 1 := ⟨f - 1, by omega⟩
    have q := ih (i + 1) f (by omega) (by omega)
    have le := bsK_le (g0 σ) c m (i + 1) ((sr (g0 σ) 6).length - 1)
    have e1 : aI M 0 150 ((41 : Int32) * nI (bsK (g0 σ) c m (i + 1) ((sr (g0 σ) 6).length - 1)) + nI (i + 1)) = some (gm (g0 σ) c m ((sr (g0 σ) 6).length - 1) (i + 1)) := by
      rw [show (41 : Int32) * nI (bsK (g0 σ) c m (i + 1) ((sr (g0 σ) 6).length - 1)) = nI (41 * bsK (g0 σ) c m (i + 1) ((sr (g0 σ) 6).length - 1)) from pk_mul 41 _, nI_add, ← bsK_gm, ← hS _ (show bsK (g0 σ) c m (i + 1) ((sr (g0 σ) 6).length - 1) < (sr (g0 σ) 6).length by omega) (i + 1) (by omega)]
      exact T_get h 12 (by decide) (show 41 * bsK (g0 σ) c m (i + 1) ((sr (g0 σ) 6).length - 1) + (i + 1) < 246 by omega)
    show BX11_paid_67 N (LX11_paid_67 N f) M 137 _ _ _ _ _ = _
    unfold BX11_paid_67
    simp only [q18, T_great h r hI hN hm (show i + 1 ≤ m by omega) hS h0, e1, Option.bind_some, nI_1, Int32.add_zero]
    rw [if_neg (nI_nlt (by omega) (by omega))]
    rw [show slC (gm (g0 σ) c m ((sr (g0 σ) 6).length - 1)) (gm (g0 σ) c m ((sr (g0 σ) 6).length - 1) 0) (i + 1) = if gm (g0 σ) c m ((sr (g0 σ) 6).length - 1) (i + 1) < gm (g0 σ) c m ((sr (g0 σ) 6).length - 1) 0 then slC (gm (g0 σ) c m ((sr (g0 σ) 6).length - 1)) (gm (g0 σ) c m ((sr (g0 σ) 6).length - 1) 0) i else slC (gm (g0 σ) c m ((sr (g0 σ) 6).length - 1)) (gm (g0 σ) c m ((sr (g0 σ) 6).length - 1) 0) i + 1 from rfl] at q
    by_cases z : gm (g0 σ) c m ((sr (g0 σ) 6).length - 1) (i + 1) < gm (g0 σ) c m ((sr (g0 σ) 6).length - 1) 0
    · rw [if_pos z]
      rw [if_pos z] at q
      exact q
    · rw [if_neg z]
      rw [if_neg z] at q
      exact q
theorem T_paid {N : Nat} {M : Mm} {σ : Sg} (h : RelT M σ) (hI : Ig σ) (hN : 2000 ≤ N) (a m p : Int32) : DoT M (fX11_paid N M 137 a m p) (sp_paid σ a m p) := by
  obtain ⟨F, A, k1, k2⟩ := id h
  have J := DoT.er h hI.2.2.1 (a := 1) 1 rfl (by decide)
  have J2 := DoT.er h hI.2.2.1 (a := 2) 2 rfl (by decide)
  have hk : (sk (g0 σ)).length ≤ 12 := hI.1.K
  have hl : (sr (g0 σ) 6).length ≤ 6 := hI.1.L 6 (by decide)
  unfold fX11_paid sp_paid jX11_paid_19
  simp only [T_c k1, T_q0 k1, (T_cnt k1 k2).2.2.2.1, T_isAsked k1 k2, show fX11_in M p.toInt64 0 1 = some (if wi p 0 1 then 1 else 0) from T_in M (a := 0) (b := 1) (by decide) (by decide), Option.bind_some, gd]
  by_cases g : okA (g0 σ) a m ∧ wi p 0 1
  · rw [if_pos g, if_pos g.1, if_pos g.2]
    obtain ⟨⟨ga, gm_⟩, gp⟩ := g
    obtain ⟨j, hj, rfl⟩ := (wi_n (by omega)).mp ga
    obtain ⟨x, x0, x1, rfl⟩ := wi_ix1 (n := 40) (by decide) rfl gm_
    rw [nI_clamp (show j < 2 ^ 31 by omega), nI_clamp (show x < 2 ^ 31 by omega)]
    by_cases z : (sr (g0 σ) 6).length = 0
    · rw [if_pos (show nI (sr (g0 σ) 6).length = 0 by rw [z]; rfl), if_pos z]; exact J2
    · rw [if_neg (nI_ne0 (by omega) (by omega)), if_neg z]
      obtain ⟨M1, F1, A1, a1, a2, a3, a4, a5⟩ := T_fs (N := N) h hI hN hj x1
      have gr : fX11_greatest N M1 137 0 = _ := T_great (s := 0) a2 a3 hI hN x1 (Nat.zero_le _) a4 (by omega)
      have q18 : gQ M1 11 137 18 = some 150 := T_ref a2 rfl
      have le := bsK_le (g0 σ) ((sk (g0 σ)).getD j []) x 0 ((sr (g0 σ) 6).length - 1)
      have e1 : aI M1 0 150 ((41 : Int32) * nI (bsK (g0 σ) ((sk (g0 σ)).getD j []) x 0 ((sr (g0 σ) 6).length - 1))) = some (gm (g0 σ) ((sk (g0 σ)).getD j []) x ((sr (g0 σ) 6).length - 1) 0) := by
        rw [show (41 : Int32) * nI (bsK (g0 σ) ((sk (g0 σ)).getD j []) x 0 ((sr (g0 σ) 6).length - 1)) = nI (41 * bsK (g0 σ) ((sk (g0 σ)).getD j []) x 0 ((sr (g0 σ) 6).length - 1)) from pk_mul 41 _, ← bsK_gm, ← a4 _ (show bsK (g0 σ) ((sk (g0 σ)).getD j []) x 0 ((sr (g0 σ) 6).length - 1) < (sr (g0 σ) 6).length by omega) 0 (by omega)]
        exact T_get a2 12 (by decide) (show 41 * bsK (g0 σ) ((sk (g0 σ)).getD j []) x 0 ((sr (g0 σ) 6).length - 1) < 246 by omega)
      have q := T_paidL (N := N) (p := p) a2 a3 hI hN x1 x0 a4 (by omega) x 0 N (by omega) (by omega)
      simp only [a1, q18, gr, e1, Option.bind_some]
      exact ⟨M1, q, ⟨F1, A1, a2, a3⟩, a5⟩
  · rw [if_neg g]
    by_cases g1 : okA (g0 σ) a m
    · rw [if_pos g1, if_neg (fun q => g ⟨g1, q⟩)]; exact J
    · rw [if_neg g1]; exact J
