/-! all, say -/
def lawM (S : St) (law y : Nat) : Nat := (lawV S law ((sr S 9).getD y 0) (nI y)).toNatClampNeg
def shN (S : St) (law : Nat) : Nat → Nat
  | 0 => ((sr S 8).getD law 0).toNatClampNeg
  | y + 1 => shN S law y * lawM S law y
def smN (S : St) (z : Nat) : Nat → Nat
  | 0 => 0
  | k + 1 => smN S z k + shN S k (z + 1)
theorem lawM_ok (S : St) (law y : Nat) : lawV S law ((sr S 9).getD y 0) (nI y) = nI (lawM S law y) ∧ lawM S law y ≤ 9 := by
  obtain ⟨k, hk, e⟩ := lawV_n S law ((sr S 9).getD y 0) (nI y)
  unfold lawM
  rw [e, nI_clamp (by omega)]
  exact ⟨rfl, hk⟩
theorem wt_ok {S : St} (h : Iv S) (law : Nat) : (sr S 8).getD law 0 = nI (shN S law 0) ∧ shN S law 0 ≤ 99 := by
  have q := getD_wi (h.1 8 (by decide)) (by decide) law
  obtain ⟨k, hk, e⟩ := wi_ix (n := 99) (by decide) rfl q
  show _ = nI ((sr S 8).getD law 0).toNatClampNeg ∧ ((sr S 8).getD law 0).toNatClampNeg ≤ 99
  rw [e, nI_clamp (by omega)]
  exact ⟨rfl, hk⟩
theorem shN_le {S : St} (h : Iv S) (law : Nat) : ∀ y, shN S law y ≤ 99 * 9 ^ y
  | 0 => by have := (wt_ok h law).2; omega
  | y + 1 => by
    have h1 := shN_le h law y
    have h2 := (lawM_ok S law y).2
    show shN S law y * lawM S law y ≤ _
    rw [Nat.pow_succ, ← Nat.mul_assoc]
    exact Nat.mul_le_mul h1 h2
theorem shN_b {S : St} (h : Iv S) (law : Nat) {y : Nat} (hy : y ≤ 8) : shN S law y ≤ 5000000000 := by
  have h1 := shN_le h law y
  have h2 : 9 ^ y ≤ 9 ^ 8 := Nat.pow_le_pow_right (by omega) hy
  have h3 : (9 : Nat) ^ 8 = 43046721 := by decide
  omega
theorem smN_b {S : St} (h : Iv S) {z : Nat} (hz : z ≤ 7) : ∀ k, k ≤ 6 → smN S z k ≤ k * 5000000000
  | 0, _ => Nat.zero_le _
  | k + 1, hk => by
    have h1 := smN_b h hz k (by omega)
    have h2 := shN_b h k (y := z + 1) (by omega)
    show smN S z k + shN S k (z + 1) ≤ _
    omega
theorem smN_ge {S : St} {z law : Nat} : ∀ k, law < k → shN S law (z + 1) ≤ smN S z k
  | 0, h => by omega
  | k + 1, h => by
    show _ ≤ smN S z k + shN S k (z + 1)
    by_cases e : law = k
    · subst e; omega
    · have := smN_ge (S := S) (z := z) (law := law) k (by omega)
      omega
theorem C_shareL {N : Nat} {σ : Sg} (hI : Ig σ) (hN : 2000 ≤ N) {law z : Nat} (hl : law < 6) (hz : z ≤ 7) : ∀ (k y f : Nat) (M : Mm), y + k = z + 1 → k < f → RelC M σ → ∃ M', LX6_shareOf_13 N f M 1 (nI law) (nI z) (lN (shN (g0 σ) law y)) (nI y) = some (lN (shN (g0 σ) law (z + 1)), M') ∧ RelC M' σ ∧ FrC M M' := by
  have l9 := hI.1.len.2.2
  intro k
  induction k with
  | zero =>
    intro y f M hk hf h
    obtain ⟨f, rfl⟩ : ∃ g, f = g + 1 := ⟨f - 1, by omega⟩
    have e : y = z + 1 := by omega
    subst e
    refine ⟨M, ?_, h, FrC.rf⟩
    show BX6_shareOf_13 N (LX6_shareOf_13 N f) M 1 _ _ _ _ = _
    unfold BX6_shareOf_13
    rw [if_pos (nI_lt (by omega) (by omega))]
  | succ k ih =>
    intro y f M hk hf h
    obtain ⟨f, rfl⟩ : ∃ g, f = g + 1 := ⟨f - 1, by omega⟩
    obtain ⟨M1, a1, a2, a3⟩ := C_law1 (N := N) h hN hl ((sr (g0 σ) 9).getD y 0) (nI y)
    obtain ⟨M2, b1, b2, b3⟩ := ih (y + 1) f M1 (by omega) (by omega) a2
    refine ⟨M2, ?_, b2, a3.trans b3⟩
    obtain ⟨e1, e2⟩ := lawM_ok (g0 σ) law y
    show BX6_shareOf_13 N (LX6_shareOf_13 N f) M 1 _ _ _ _ = _
    unfold BX6_shareOf_13
    rw [if_neg (nI_nlt (by omega) (by omega)), if_neg (show ¬ (8 : Int32) ≤ nI y from nI_ge (b := 8) (by omega) (by decide))]
    simp only [h.f9, R_at h.w9, lg_nI (show y < 2 ^ 31 by omega), Option.bind_some]
    rw [a1, bd2_s, e1, nI_l (by omega), lN_mul, nI_1]
    exact b1
theorem C_share {N : Nat} {M : Mm} {σ : Sg} (h : RelC M σ) (hI : Ig σ) (hN : 2000 ≤ N) {law z : Nat} (hl : law < 6) (hz : z ≤ 7) : ∃ M', fX6_shareOf N M 1 (nI law) (nI z) = some (lN (shN (g0 σ) law (z + 1)), M') ∧ RelC M' σ ∧ FrC M M' := by
  obtain ⟨e1, e2⟩ := wt_ok hI.1 law
  obtain ⟨M1, a1, a2, a3⟩ := C_shareL (N := N) hI hN hl hz (z + 1) 0 N M (by omega) (by omega) h
  refine ⟨M1, ?_, a2, a3⟩
  simp only [fX6_shareOf, h.2.1.c, h.f8, R_at h.w8, lg_nI (show law < 2 ^ 31 by omega), e1, Option.bind_some]
  rw [nI_l (by omega)]
  exact a1
theorem C_togL {N : Nat} {σ : Sg} (hI : Ig σ) (hN : 2000 ≤ N) {z : Nat} (hz : z ≤ 7) : ∀ (k i f : Nat) (M : Mm), i + k = 6 → k < f → RelC M σ → ∃ M', LX6_sharesTogether_5 N f M 1 (nI z) (lN (smN (g0 σ) z i)) (nI i) = some (lN (smN (g0 σ) z 6), M') ∧ RelC M' σ ∧ FrC M M' := by
  intro k
  induction k with
  | zero =>
    intro i f M hk hf h
    obtain ⟨f, rfl⟩ : ∃ g, f = g + 1 := ⟨f - 1, by omega⟩
    have e : i = 6 := by omega
    subst e
    refine ⟨M, ?_, h, FrC.rf⟩
    show BX6_sharesTogether_5 N (LX6_sharesTogether_5 N f) M 1 _ _ _ = _
    unfold BX6_sharesTogether_5
    rw [if_pos (by decide)]
  | succ k ih =>
    intro i f M hk hf h
    obtain ⟨f, rfl⟩ : ∃ g, f = g + 1 := ⟨f - 1, by omega⟩
    obtain ⟨M1, a1, a2, a3⟩ := C_share (N := N) h hI hN (law := i) (by omega) hz
    obtain ⟨M2, b1, b2, b3⟩ := ih (i + 1) f M1 (by omega) (by omega) a2
    refine ⟨M2, ?_, b2, a3.trans b3⟩
    show BX6_sharesTogether_5 N (LX6_sharesTogether_5 N f) M 1 _ _ _ = _
    unfold BX6_sharesTogether_5
    rw [if_neg (show ¬ (6 : Int32) ≤ nI i from nI_ge (b := 6) (by omega) (by decide)), a1, bd2_s, lN_add, nI_1]
    exact b1
theorem C_tog {N : Nat} {M : Mm} {σ : Sg} (h : RelC M σ) (hI : Ig σ) (hN : 2000 ≤ N) {z : Nat} (hz : z ≤ 7) : ∃ M', fX6_sharesTogether N M 1 (nI z) = some (lN (smN (g0 σ) z 6), M') ∧ RelC M' σ ∧ FrC M M' := by
  obtain ⟨M1, a1, a2, a3⟩ := C_togL (N := N) hI hN hz 6 0 N M (by omega) (by omega) h
  refine ⟨M1, ?_, a2, a3⟩
  simp only [fX6_sharesTogether, h.2.1.c, Option.bind_some]
  exact a1
theorem T_oddsL {N : Nat} {F : Nat → Int32} {σ : Sg} (hI : Ig σ) (hN : 2000 ≤ N) {law z : Nat} (hl : law < 6) (hz : z ≤ 7) : ∀ (k y f : Nat) (M : Mm) (A : Nat → Nat → Int32), y + k = z + 1 → k < f → TwAt M F A → TwR F A σ → ∃ M' A', LX11_oddsOf_15 N f M 137 (nI law) (nI z) (lN (shN (g0 σ) law y)) (nI y) = some (lN (shN (g0 σ) law (z + 1)), M') ∧ TwAt M' F A' ∧ TwR F A' σ ∧ FrT M M' := by
  have l9 := hI.1.len.2.2
  intro k
  induction k with
  | zero =>
    intro y f M A hk hf h r
    obtain ⟨f, rfl⟩ : ∃ g, f = g + 1 := ⟨f - 1, by omega⟩
    have e : y = z + 1 := by omega
    subst e
    refine ⟨M, A, ?_, h, r, Of.rf⟩
    show BX11_oddsOf_15 N (LX11_oddsOf_15 N f) M 137 _ _ _ _ = _
    unfold BX11_oddsOf_15
    rw [if_pos (nI_lt (by omega) (by omega))]
  | succ k ih =>
    intro y f M A hk hf h r
    obtain ⟨f, rfl⟩ : ∃ g, f = g + 1 := ⟨f - 1, by omega⟩
    obtain ⟨M1, A1, a1, a2, a3, a4⟩ := T_law1 (N := N) h r hI hN hl ((sr (g0 σ) 9).getD y 0) (nI y)
    obtain ⟨M2, A2, b1, b2, b3, b4⟩ := ih (y + 1) f M1 A1 (by omega) (by omega) a2 a3
    refine ⟨M2, A2, ?_, b2, b3, a4.trans b4⟩
    obtain ⟨e1, e2⟩ := lawM_ok (g0 σ) law y
    have t1 := r.1.2.1 9 (by decide) y (by omega)
    have ey : aI M 0 138 ((404 : Int32) + nI y) = some ((sr (g0 σ) 9).getD y 0) := by
      rw [show (404 : Int32) + nI y = nI (404 + y) from nI_add 404 y, T_m h (by omega), show 404 + y = tix 9 y from by show _ = 404 + 1 * y; omega, t1]
    show BX11_oddsOf_15 N (LX11_oddsOf_15 N f) M 137 _ _ _ _ = _
    unfold BX11_oddsOf_15
    rw [if_neg (nI_nlt (by omega) (by omega))]
    simp only [T_q0 h, ey, Option.bind_some]
    rw [a1, bd2_s, e1, nI_l (by omega), lN_mul, nI_1]
    exact b1
theorem T_odds {N : Nat} {M : Mm} {F : Nat → Int32} {A : Nat → Nat → Int32} {σ : Sg} (h : TwAt M F A) (r : TwR F A σ) (hI : Ig σ) (hN : 2000 ≤ N) {law z : Nat} (hl : law < 6) (hz : z ≤ 7) : ∃ M' A', fX11_oddsOf N M 137 (nI law) (nI z) = some (lN (shN (g0 σ) law (z + 1)), M') ∧ TwAt M' F A' ∧ TwR F A' σ ∧ FrT M M' := by
  have l8 := hI.1.len.2.1
  obtain ⟨e1, e2⟩ := wt_ok hI.1 law
  obtain ⟨M1, A1, a1, a2, a3, a4⟩ := T_oddsL (N := N) (F := F) hI hN hl hz (z + 1) 0 N M A (by omega) (by omega) h r
  refine ⟨M1, A1, ?_, a2, a3, a4⟩
  have t1 := r.1.2.1 8 (by decide) law (by omega)
  have ey : aI M 0 138 ((398 : Int32) + nI law) = some (nI (shN (g0 σ) law 0)) := by
    rw [show (398 : Int32) + nI law = nI (398 + law) from nI_add 398 law, T_m h (by omega), show 398 + law = tix 8 law from by show _ = 398 + 1 * law; omega, t1, e1]
  simp only [fX11_oddsOf, T_c h, T_q0 h, ey, Option.bind_some]
  rw [nI_l (by omega)]
  exact a1
theorem T_togL {N : Nat} {F : Nat → Int32} {σ : Sg} (hI : Ig σ) (hN : 2000 ≤ N) {z : Nat} (hz : z ≤ 7) : ∀ (k i f : Nat) (M : Mm) (A : Nat → Nat → Int32), i + k = 6 → k < f → TwAt M F A → TwR F A σ → ∃ M' A', LX11_oddsOfAll_5 N f M 137 (nI z) (lN (smN (g0 σ) z i)) (nI i) = some (lN (smN (g0 σ) z 6), M') ∧ TwAt M' F A' ∧ TwR F A' σ ∧ FrT M M' := by
  intro k
  induction k with
  | zero =>
    intro i f M A hk hf h r
    obtain ⟨f, rfl⟩ : ∃ g, f = g + 1 := ⟨f - 1, by omega⟩
    have e : i = 6 := by omega
    subst e
    refine ⟨M, A, ?_, h, r, Of.rf⟩
    show BX11_oddsOfAll_5 N (LX11_oddsOfAll_5 N f) M 137 _ _ _ = _
    unfold BX11_oddsOfAll_5
    rw [if_pos (by decide)]
  | succ k ih =>
    intro i f M A hk hf h r
    obtain ⟨f, rfl⟩ : ∃ g, f = g + 1 := ⟨f - 1, by omega⟩
    obtain ⟨M1, A1, a1, a2, a3, a4⟩ := T_odds (N := N) h r hI hN (law := i) (by omega) hz
    obtain ⟨M2, A2, b1, b2, b3, b4⟩ := ih (i + 1) f M1 A1 (by omega) (by omega) a2 a3
    refine ⟨M2, A2, ?_, b2, b3, a4.trans b4⟩
    show BX11_oddsOfAll_5 N (LX11_oddsOfAll_5 N f) M 137 _ _ _ = _
    unfold BX11_oddsOfAll_5
    rw [if_neg (show ¬ (6 : Int32) ≤ nI i from nI_ge (b := 6) (by omega) (by decide)), a1, bd2_s, lN_add, nI_1]
    exact b1
theorem T_tog {N : Nat} {M : Mm} {F : Nat → Int32} {A : Nat → Nat → Int32} {σ : Sg} (h : TwAt M F A) (r : TwR F A σ) (hI : Ig σ) (hN : 2000 ≤ N) {z : Nat} (hz : z ≤ 7) : ∃ M' A', fX11_oddsOfAll N M 137 (nI z) = some (lN (smN (g0 σ) z 6), M') ∧ TwAt M' F A' ∧ TwR F A' σ ∧ FrT M M' := by
  obtain ⟨M1, A1, a1, a2, a3, a4⟩ := T_togL (N := N) (F := F) hI hN hz 6 0 N M A (by omega) (by omega) h r
  refine ⟨M1, A1, ?_, a2, a3, a4⟩
  simp only [fX11_oddsOfAll, T_c h, Option.bind_some]
  exact a1
/-! all -/
abbrev AnL : Type := Int64 × Sg
def DoCL (M : Mm) (r : Option (Int64 × Mm)) (a : AnL) : Prop := ∃ M', r = some (a.1, M') ∧ RelC M' a.2 ∧ FrC M M'
def DoTL (M : Mm) (r : Option (Int64 × Mm)) (a : AnL) : Prop := ∃ M', r = some (a.1, M') ∧ RelT M' a.2 ∧ FrT M M'
abbrev okL (law y p : Int32) : Prop := wi law 0 5 ∧ wi y 0 7 ∧ wi p 0 1
def sp_all (σ : Sg) (law y p : Int32) : AnL := if okL law y p then (if smN (g0 σ) y.toNatClampNeg 6 = 0 then p.toInt64 else lN (lowT (shN (g0 σ) law.toNatClampNeg (y.toNatClampNeg + 1)) (smN (g0 σ) y.toNatClampNeg 6) p), σ) else ((-1000000 - nI 1).toInt64, erS σ 1)
theorem I_all {σ : Sg} (h : Ig σ) (law y p : Int32) : Ig (sp_all σ law y p).2 := by
  unfold sp_all
  by_cases g : okL law y p
  · rw [if_pos g]; exact h
  · rw [if_neg g]; exact h.er 1
theorem C_all {N : Nat} {M : Mm} {σ : Sg} (h : RelC M σ) (hI : Ig σ) (hN : 2000 ≤ N) (law y p : Int32) : DoCL M (fX10_all N M 0 law y p) (sp_all σ law y p) := by
  have J : DoCL M (bd2 (fX10_error M 0 1) fun v2 M3 => some (v2.toInt64, M3)) ((-1000000 - nI 1).toInt64, erS σ 1) := by
    obtain ⟨M', e1, e2, e3⟩ := C_error h (a := 1) 1 rfl (by decide)
    exact ⟨M', by rw [e1]; rfl, e2, e3⟩
  unfold fX10_all sp_all jX10_all_21
  simp only [h.c, C_isLaw, C_isYear, C_isPart, Option.bind_some, gd]
  by_cases g : okL law y p
  · rw [if_pos g, if_pos g.1, if_pos g.2.1, if_pos g.2.2]
    obtain ⟨l, hl, rfl⟩ := wi_ix (n := 5) (by decide) rfl g.1
    obtain ⟨z, hz, rfl⟩ := wi_ix (n := 7) (by decide) rfl g.2.1
    rw [nI_clamp (show l < 2 ^ 31 by omega), nI_clamp (show z < 2 ^ 31 by omega)]
    obtain ⟨M1, a1, a2, a3⟩ := C_share (N := N) h hI hN (law := l) (by omega) hz
    obtain ⟨M2, b1, b2, b3⟩ := C_tog (N := N) a2 hI hN hz
    have s1 := shN_b hI.1 l (y := z + 1) (by omega)
    have s2 := smN_b hI.1 hz 6 (Nat.le_refl _)
    have s3 := smN_ge (S := g0 σ) (z := z) (law := l) 6 (by omega)
    simp only [h.q0, Option.bind_some]
    rw [a1, bd2_s]
    simp only [a2.q0, Option.bind_some]
    rw [b1, bd2_s]
    refine ⟨M2, ?_, b2, a3.trans b3⟩
    by_cases x : smN (g0 σ) z 6 = 0
    · rw [if_pos x, x, show shN (g0 σ) l (z + 1) = 0 by omega]
      unfold fX10_inLowestTerms jX10_inLowestTerms_15
      rw [if_pos (by decide), if_pos (by decide)]
      obtain ⟨q, hq, rfl⟩ := wi_ix (n := 1) (by decide) rfl g.2.2
      match q, hq with
      | 0, _ => rfl
      | 1, _ => rfl
    · rw [if_neg x, C_low hN (by omega) (by omega) (by omega)]
      rfl
  · rw [if_neg g]
    by_cases g1 : wi law 0 5
    · rw [if_pos g1]
      by_cases g2 : wi y 0 7
      · rw [if_pos g2, if_neg (fun q => g ⟨g1, g2, q⟩)]; exact J
      · rw [if_neg g2]; exact J
    · rw [if_neg g1]; exact J
theorem T_all {N : Nat} {M : Mm} {σ : Sg} (h : RelT M σ) (hI : Ig σ) (hN : 2000 ≤ N) (law y p : Int32) : DoTL M (fX11_all N M 137 law y p) (sp_all σ law y p) := by
  obtain ⟨F, A, k1, k2⟩ := id h
  have J : DoTL M (bd2 (fX11_error M 137 1) fun v2 M3 => some (v2.toInt64, M3)) ((-1000000 - nI 1).toInt64, erS σ 1) := by
    obtain ⟨M', e1, e2, e3⟩ := T_error h hI.2.2.1 (a := 1) 1 rfl (by decide)
    exact ⟨M', by rw [e1]; rfl, e2, e3⟩
  unfold fX11_all sp_all jX11_all_24
  simp only [T_c k1, T_isLaw, T_isYear, show fX11_in M p.toInt64 0 1 = some (if wi p 0 1 then 1 else 0) from T_in M (a := 0) (b := 1) (by decide) (by decide), Option.bind_some, gd]
  by_cases g : okL law y p
  · rw [if_pos g, if_pos g.1, if_pos g.2.1, if_pos g.2.2]
    obtain ⟨l, hl, rfl⟩ := wi_ix (n := 5) (by decide) rfl g.1
    obtain ⟨z, hz, rfl⟩ := wi_ix (n := 7) (by decide) rfl g.2.1
    rw [nI_clamp (show l < 2 ^ 31 by omega), nI_clamp (show z < 2 ^ 31 by omega)]
    obtain ⟨M1, A1, a1, a2, a3, a4⟩ := T_tog (N := N) k1 k2 hI hN hz
    obtain ⟨M2, A2, b1, b2, b3, b4⟩ := T_odds (N := N) a2 a3 hI hN (law := l) (by omega) hz
    have s1 := shN_b hI.1 l (y := z + 1) (by omega)
    have s2 := smN_b hI.1 hz 6 (Nat.le_refl _)
    rw [a1, bd2_s]
    by_cases x : smN (g0 σ) z 6 = 0
    · rw [if_pos x, if_pos ((lg0 (by omega)).mpr x)]
      exact ⟨M1, rfl, ⟨F, A1, a2, a3⟩, a4⟩
    · rw [if_neg x, if_neg (fun q => x ((lg0 (by omega)).mp q)), b1, bd2_s]
      have g0' : 0 < Nat.gcd (shN (g0 σ) l (z + 1)) (smN (g0 σ) z 6) := Nat.gcd_pos_of_pos_right _ (by omega)
      have g1' : Nat.gcd (shN (g0 σ) l (z + 1)) (smN (g0 σ) z 6) ≤ smN (g0 σ) z 6 := Nat.gcd_le_right _ (by omega)
      unfold fX11_common
      rw [T_gcdL (N := N) (M := M2) 63 _ _ N (by omega) (by omega) (by omega) (by omega)]
      simp only [Option.bind_some]
      refine ⟨M2, ?_, ⟨F, A2, b2, b3⟩, a4.trans b4⟩
      unfold lowT
      by_cases w : p = 0
      · rw [if_pos w, if_pos w, dJ_n (by omega) g0' (by omega)]; rfl
      · rw [if_neg w, if_neg w, dJ_n (by omega) g0' (by omega)]; rfl
  · rw [if_neg g]
    by_cases g1 : wi law 0 5
    · rw [if_pos g1]
      by_cases g2 : wi y 0 7
      · rw [if_pos g2, if_neg (fun q => g ⟨g1, g2, q⟩)]; exact J
      · rw [if_neg g2]; exact J
    · rw [if_neg g1]; exact J
/-! say -/
def vvN (a b : Nat) : Nat := if 10 * a < 9 * b then (if 2 * a < b then 0 else 1) else 2
def mxN (S : St) (z : Nat) : Nat → Nat
  | 0 => 0
  | k + 1 => if mxN S z k < shN S k (z + 1) then shN S k (z + 1) else mxN S z k
theorem vvN_m {a a' b : Nat} (h : a ≤ a') : vvN a b ≤ vvN a' b := by
  unfold vvN
  repeat' split
  all_goals omega
theorem vvN_2 (a b : Nat) : vvN a b ≤ 2 := by
  unfold vvN
  repeat' split
  all_goals omega
theorem mxN_b {S : St} (h : Iv S) {z : Nat} (hz : z ≤ 7) : ∀ k, mxN S z k ≤ 5000000000
  | 0 => Nat.zero_le _
  | k + 1 => by
    have h1 := mxN_b h hz k
    have h2 := shN_b h k (y := z + 1) (by omega)
    show (if mxN S z k < shN S k (z + 1) then shN S k (z + 1) else mxN S z k) ≤ _
    split <;> omega
def sp_say (σ : Sg) (y : Int32) : An := if wi y 0 7 then (if smN (g0 σ) y.toNatClampNeg 6 = 0 then 0 else nI (vvN (mxN (g0 σ) y.toNatClampNeg 6) (smN (g0 σ) y.toNatClampNeg 6)), σ) else er σ 1
theorem I_say {σ : Sg} (h : Ig σ) (y : Int32) : Ig (sp_say σ y).2 := by
  unfold sp_say
  by_cases g : wi y 0 7
  · rw [if_pos g]; exact h
  · rw [if_neg g]; exact h.er 1
theorem lgL {a b : Nat} (ha : a < 2 ^ 63) (hb : b < 2 ^ 63) : lg_cmp (lN a) (lN b) < 0 ↔ a < b := by
  rw [lg_cmp_lt, pk_lLT ha hb]
theorem C_syL {N : Nat} {σ : Sg} (hI : Ig σ) (hN : 2000 ≤ N) {z : Nat} (hz : z ≤ 7) : ∀ (k i f : Nat) (M : Mm), i + k = 6 → k < f → RelC M σ → DoC M (LX10_say_36 N f M 0 (nI z) (lN (smN (g0 σ) z 6)) (lN (mxN (g0 σ) z i)) (nI i)) (nI (vvN (mxN (g0 σ) z 6) (smN (g0 σ) z 6)), σ) := by
  have s2 := smN_b hI.1 hz 6 (Nat.le_refl _)
  intro k
  induction k with
  | zero =>
    intro i f M hk hf h
    obtain ⟨f, rfl⟩ : ∃ g, f = g + 1 := ⟨f - 1, by omega⟩
    have e : i = 6 := by omega
    subst e
    have s3 := mxN_b hI.1 hz 6
    show DoC M (BX10_say_36 N (LX10_say_36 N f) M 0 _ _ _ _) _
    unfold BX10_say_36 vvN
    rw [if_pos (by decide), show (10 : Int64) * lN (mxN (g0 σ) z 6) = lN (10 * mxN (g0 σ) z 6) from lN_mul 10 _, show (9 : Int64) * lN (smN (g0 σ) z 6) = lN (9 * smN (g0 σ) z 6) from lN_mul 9 _, show (2 : Int64) * lN (mxN (g0 σ) z 6) = lN (2 * mxN (g0 σ) z 6) from lN_mul 2 _]
    by_cases x : 10 * mxN (g0 σ) z 6 < 9 * smN (g0 σ) z 6
    · rw [if_pos ((lgL (by omega) (by omega)).mpr x), if_pos x]
      by_cases y : 2 * mxN (g0 σ) z 6 < smN (g0 σ) z 6
      · rw [if_pos ((lgL (by omega) (by omega)).mpr y), if_pos y]; exact DoC.same h
      · rw [if_neg (fun q => y ((lgL (by omega) (by omega)).mp q)), if_neg y]; exact DoC.same h
    · rw [if_neg (fun q => x ((lgL (by omega) (by omega)).mp q)), if_neg x]; exact DoC.same h
  | succ k ih =>
    intro i f M hk hf h
    obtain ⟨f, rfl⟩ : ∃ g, f = g + 1 := ⟨f - 1, by omega⟩
    obtain ⟨M1, a1, a2, a3⟩ := C_share (N := N) h hI hN (law := i) (by omega) hz
    have s3 := mxN_b hI.1 hz i
    have s4 := shN_b hI.1 i (y := z + 1) (by omega)
    have q := ih (i + 1) f M1 (by omega) (by omega) a2
    have em : fJ9_max_f86c9 M1 (lN (mxN (g0 σ) z i)) (lN (shN (g0 σ) i (z + 1))) = some (lN (mxN (g0 σ) z (i + 1))) := by
      unfold fJ9_max_f86c9
      show _ = some (lN (if mxN (g0 σ) z i < shN (g0 σ) i (z + 1) then shN (g0 σ) i (z + 1) else mxN (g0 σ) z i))
      by_cases y : mxN (g0 σ) z i < shN (g0 σ) i (z + 1)
      · rw [if_pos ((lgL (by omega) (by omega)).mpr y), if_pos y]
      · rw [if_neg (fun q => y ((lgL (by omega) (by omega)).mp q)), if_neg y]
    show DoC M (BX10_say_36 N (LX10_say_36 N f) M 0 _ _ _ _) _
    unfold BX10_say_36
    rw [if_neg (show ¬ (6 : Int32) ≤ nI i from nI_ge (b := 6) (by omega) (by decide))]
    simp only [h.q0, Option.bind_some]
    rw [a1, bd2_s, em]
    simp only [Option.bind_some, nI_1]
    exact DoC.tr a3 q
theorem C_say {N : Nat} {M : Mm} {σ : Sg} (h : RelC M σ) (hI : Ig σ) (hN : 2000 ≤ N) (y : Int32) : DoC M (fX10_say N M 0 y) (sp_say σ y) := by
  have J := DoC.er h (a := 1) 1 rfl (by decide)
  unfold fX10_say sp_say
  simp only [h.c, h.q0, C_isYear, Option.bind_some, gd]
  by_cases g : wi y 0 7
  · rw [if_pos g, if_pos g]
    obtain ⟨z, hz, rfl⟩ := wi_ix (n := 7) (by decide) rfl g
    rw [nI_clamp (by omega)]
    have s2 := smN_b hI.1 hz 6 (Nat.le_refl _)
    obtain ⟨M1, a1, a2, a3⟩ := C_tog (N := N) h hI hN hz
    rw [a1, bd2_s]
    by_cases x : smN (g0 σ) z 6 = 0
    · rw [if_pos ((lg0 (by omega)).mpr x), if_pos x]; exact DoC.tr a3 (DoC.same a2)
    · rw [if_neg (fun q => x ((lg0 (by omega)).mp q)), if_neg x]
      exact DoC.tr a3 (C_syL (N := N) hI hN hz 6 0 N M1 (by omega) (by omega) a2)
  · rw [if_neg g, if_neg g]; exact J
theorem T_syL {N : Nat} {F : Nat → Int32} {σ : Sg} (hI : Ig σ) (hN : 2000 ≤ N) {z : Nat} (hz : z ≤ 7) (h0 : 0 < smN (g0 σ) z 6) : ∀ (k i f : Nat) (M : Mm) (A : Nat → Nat → Int32), i + k = 6 → k < f → TwAt M F A → TwR F A σ → DoT M (LX11_say_25 N f M 137 (nI z) (lN (smN (g0 σ) z 6)) (nI (vvN (mxN (g0 σ) z i) (smN (g0 σ) z 6))) (nI i)) (nI (vvN (mxN (g0 σ) z 6) (smN (g0 σ) z 6)), σ) := by
  have s2 := smN_b hI.1 hz 6 (Nat.le_refl _)
  intro k
  induction k with
  | zero =>
    intro i f M A hk hf h r
    obtain ⟨f, rfl⟩ : ∃ g, f = g + 1 := ⟨f - 1, by omega⟩
    have e : i = 6 := by omega
    subst e
    show DoT M (BX11_say_25 N (LX11_say_25 N f) M 137 _ _ _ _) _
    unfold BX11_say_25
    rw [if_pos (by decide)]
    exact DoT.same ⟨F, A, h, r⟩
  | succ k ih =>
    intro i f M A hk hf h r
    obtain ⟨f, rfl⟩ : ∃ g, f = g + 1 := ⟨f - 1, by omega⟩
    obtain ⟨M1, A1, a1, a2, a3, a4⟩ := T_odds (N := N) h r hI hN (law := i) (by omega) hz
    have s4 := shN_b hI.1 i (y := z + 1) (by omega)
    have q := ih (i + 1) f M1 A1 (by omega) (by omega) a2 a3
    have J : ∀ s : Nat, s = vvN (shN (g0 σ) i (z + 1)) (smN (g0 σ) z 6) → DoT M1 (jX11_say_82 N (LX11_say_25 N f) M1 137 (nI z) (lN (smN (g0 σ) z 6)) (nI (vvN (mxN (g0 σ) z i) (smN (g0 σ) z 6))) (nI i) (nI s)) (nI (vvN (mxN (g0 σ) z 6) (smN (g0 σ) z 6)), σ) := by
      intro s hs
      have b1 := vvN_2 (shN (g0 σ) i (z + 1)) (smN (g0 σ) z 6)
      have b2 := vvN_2 (mxN (g0 σ) z i) (smN (g0 σ) z 6)
      unfold jX11_say_82
      rw [nI_1]
      have em : mxN (g0 σ) z (i + 1) = if mxN (g0 σ) z i < shN (g0 σ) i (z + 1) then shN (g0 σ) i (z + 1) else mxN (g0 σ) z i := rfl
      by_cases y : mxN (g0 σ) z i < shN (g0 σ) i (z + 1)
      · rw [if_pos y] at em
        rw [em, ← hs] at q
        have mo := vvN_m (b := smN (g0 σ) z 6) (Nat.le_of_lt y)
        by_cases x : nI s ≤ nI (vvN (mxN (g0 σ) z i) (smN (g0 σ) z 6))
        · rw [if_pos x]
          have x' := (nI_leI (by omega) (by omega)).mp x
          rw [show vvN (mxN (g0 σ) z i) (smN (g0 σ) z 6) = s by omega]
          exact q
        · rw [if_neg x]; exact q
      · rw [if_neg y] at em
        rw [em] at q
        have mo := vvN_m (b := smN (g0 σ) z 6) (show shN (g0 σ) i (z + 1) ≤ mxN (g0 σ) z i by omega)
        rw [if_pos (nI_le (by omega) (by omega))]
        exact q
    show DoT M (BX11_say_25 N (LX11_say_25 N f) M 137 _ _ _ _) _
    unfold BX11_say_25
    rw [if_neg (show ¬ (6 : Int32) ≤ nI i from nI_ge (b := 6) (by omega) (by decide)), if_neg (by rw [lg_cmp_le, ← lN_0, pk_lLE (by omega) (by decide)]; omega), a1, bd2_s, show (10 : Int64) * lN (shN (g0 σ) i (z + 1)) = lN (10 * shN (g0 σ) i (z + 1)) from lN_mul 10 _, show (9 : Int64) * lN (smN (g0 σ) z 6) = lN (9 * smN (g0 σ) z 6) from lN_mul 9 _, show (2 : Int64) * lN (shN (g0 σ) i (z + 1)) = lN (2 * shN (g0 σ) i (z + 1)) from lN_mul 2 _]
    refine DoT.tr a4 ?_
    by_cases x : 10 * shN (g0 σ) i (z + 1) < 9 * smN (g0 σ) z 6
    · rw [if_pos ((lgL (by omega) (by omega)).mpr x)]
      by_cases y : 2 * shN (g0 σ) i (z + 1) < smN (g0 σ) z 6
      · rw [if_pos ((lgL (by omega) (by omega)).mpr y)]
        exact J 0 (by unfold vvN; rw [if_pos x, if_pos y])
      · rw [if_neg (fun q => y ((lgL (by omega) (by omega)).mp q))]
        exact J 1 (by unfold vvN; rw [if_pos x, if_neg y])
    · rw [if_neg (fun q => x ((lgL (by omega) (by omega)).mp q))]
      exact J 2 (by unfold vvN; rw [if_neg x])
theorem T_say {N : Nat} {M : Mm} {σ : Sg} (h : RelT M σ) (hI : Ig σ) (hN : 2000 ≤ N) (y : Int32) : DoT M (fX11_say N M 137 y) (sp_say σ y) := by
  obtain ⟨F, A, k1, k2⟩ := id h
  have J := DoT.er h hI.2.2.1 (a := 1) 1 rfl (by decide)
  unfold fX11_say sp_say
  simp only [T_c k1, T_isYear, Option.bind_some, gd]
  by_cases g : wi y 0 7
  · rw [if_pos g, if_pos g]
    obtain ⟨z, hz, rfl⟩ := wi_ix (n := 7) (by decide) rfl g
    rw [nI_clamp (by omega)]
    have s2 := smN_b hI.1 hz 6 (Nat.le_refl _)
    obtain ⟨M1, A1, a1, a2, a3, a4⟩ := T_tog (N := N) k1 k2 hI hN hz
    rw [a1, bd2_s]
    by_cases x : smN (g0 σ) z 6 = 0
    · rw [if_pos x, x]
      obtain ⟨n, hn⟩ : ∃ n, N = n + 1 := ⟨N - 1, by omega⟩
      refine ⟨M1, ?_, ⟨F, A1, a2, a3⟩, a4⟩
      have e : LX11_say_25 N (n + 1) M1 137 (nI z) (lN 0) 0 0 = some (0, M1) := by
        show BX11_say_25 N (LX11_say_25 N n) M1 137 _ _ _ _ = _
        unfold BX11_say_25
        rw [if_neg (by decide), if_pos (by decide)]
      rw [← hn] at e
      exact e
    · rw [if_neg x]
      have v0 : vvN (mxN (g0 σ) z 0) (smN (g0 σ) z 6) = 0 := by
        show vvN 0 _ = 0
        unfold vvN
        rw [if_pos (by omega), if_pos (by omega)]
      have q := T_syL (N := N) (F := F) hI hN hz (by omega) 6 0 N M1 A1 (by omega) (by omega) a2 a3
      rw [v0] at q
      exact DoT.tr a4 q
  · rw [if_neg g, if_neg g]; exact J
