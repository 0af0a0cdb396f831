/-! spread, stars, tried -/
def sp_spread (σ : Sg) (bar l p : Int32) : An := if isB (g0 σ) bar ∧ wi l 0 999 ∧ wi p 12 999 then (sprd (g0 σ) bar l p, σ) else er σ 1
theorem I_spread {σ : Sg} (h : Ig σ) (bar l p : Int32) : Ig (sp_spread σ bar l p).2 := by
  unfold sp_spread
  by_cases g : isB (g0 σ) bar ∧ wi l 0 999 ∧ wi p 12 999
  · rw [if_pos g]; exact h
  · rw [if_neg g]; exact h.er 1
theorem C_spread {N : Nat} {M : Mm} {σ : Sg} (h : RelC M σ) (hI : Ig σ) (hN : 2000 ≤ N) (bar l p : Int32) : DoC M (fX10_spread N M 0 bar l p) (sp_spread σ bar l p) := by
  have J := DoC.er h (a := 1) 1 rfl (by decide)
  have hb6 : (sr (g0 σ) 1).length ≤ 6 := hI.1.L 1 (by decide)
  unfold fX10_spread sp_spread jX10_spread_22
  simp only [h.c, C_isBar h, C_isLine, C_isPeriod, Option.bind_some, gd]
  by_cases g : isB (g0 σ) bar ∧ wi l 0 999 ∧ wi p 12 999
  · rw [if_pos g, if_pos g.1, if_pos g.2.1, if_pos g.2.2]
    obtain ⟨b, hb, rfl⟩ := (wi_n (by omega)).mp g.1
    obtain ⟨M1, M2, a1, a2, a3, a4, a5, a6⟩ := C_hk (N := N) (t := 109) h hI (Or.inr (Or.inr rfl)) hN hb l
    obtain ⟨M3, b1, b2, b3, b4⟩ := C_spread1 (N := N) a4 hI hN a5 g.2.2
    simp only [h.q0, h.q6, a1, a2.q6, a3, a4.q6, b1, bd2_s, Option.bind_some]
    exact ⟨M3, rfl, b2, a6.trans b4⟩
  · rw [if_neg g]
    by_cases g1 : isB (g0 σ) bar
    · rw [if_pos g1]
      by_cases g2 : wi l 0 999
      · rw [if_pos g2, if_neg (fun q => g ⟨g1, g2, q⟩)]; exact J
      · rw [if_neg g2]; exact J
    · rw [if_neg g1]; exact J
theorem T_spread {N : Nat} {M : Mm} {σ : Sg} (h : RelT M σ) (hI : Ig σ) (hN : 2000 ≤ N) (bar l p : Int32) : DoT M (fX11_spread N M 137 bar l p) (sp_spread σ bar l p) := by
  obtain ⟨F, A, k1, k2⟩ := id h
  have J := DoT.er h hI.2.2.1 (a := 1) 1 rfl (by decide)
  unfold fX11_spread sp_spread jX11_spread_22
  simp only [T_c k1, T_isBar k1 k2, T_isLine, T_isPeriod, Option.bind_some, gd]
  by_cases g : isB (g0 σ) bar ∧ wi l 0 999 ∧ wi p 12 999
  · rw [if_pos g, if_pos g.1, if_pos g.2.1, if_pos g.2.2]
    obtain ⟨M1, F1, A1, a1, a2, a3, a4, a5⟩ := T_readAll (N := N) h hI hN
    obtain ⟨M2, A2, b1, b2, b3, b4, b5⟩ := T_spread1 (N := N) (bar := bar) (l := l) a2 a3 a4 hI g.2.2 hN
    simp only [a1, b1, bd2_s, Option.bind_some]
    exact ⟨M2, rfl, ⟨F1, A2, b2, b3⟩, a5.trans b5⟩
  · rw [if_neg g]
    by_cases g1 : isB (g0 σ) bar
    · rw [if_pos g1]
      by_cases g2 : wi l 0 999
      · rw [if_pos g2, if_neg (fun q => g ⟨g1, g2, q⟩)]; exact J
      · rw [if_neg g2]; exact J
    · rw [if_neg g1]; exact J
abbrev okPd (a b : Int32) : Prop := wi a 12 999 ∧ wi b 12 999 ∧ wi (b - a) 0 39
theorem C_arePeriods (M : Mm) (a b : Int32) : fX10_arePeriods M a b = some (if okPd a b then 1 else 0) := by
  simp only [fX10_arePeriods, C_isPeriod, C_within, Option.bind_some, gd]
  by_cases g1 : wi a 12 999
  · rw [if_pos g1]
    by_cases g2 : wi b 12 999
    · rw [if_pos g2]
      by_cases g3 : wi (b - a) 0 39
      · rw [if_pos g3, if_pos (show okPd a b from ⟨g1, g2, g3⟩)]
      · rw [if_neg g3, if_neg (show ¬ okPd a b from fun q => g3 q.2.2)]
    · rw [if_neg g2, if_neg (show ¬ okPd a b from fun q => g2 q.2.1)]
  · rw [if_neg g1, if_neg (show ¬ okPd a b from fun q => g1 q.1)]
theorem T_areStars {M : Mm} {F : Nat → Int32} {A : Nat → Nat → Int32} {σ : Sg} (h : TwAt M F A) (r : TwR F A σ) (bar l a b : Int32) : fX11_areStars M 137 bar l a b = some (if isB (g0 σ) bar ∧ wi l 0 999 ∧ okPd a b then 1 else 0) := by
  simp only [fX11_areStars, T_c h, T_isBar h r, T_isLine, T_isPeriod, show fX11_in M (b - a).toInt64 0 39 = some (if wi (b - a) 0 39 then 1 else 0) from T_in M (a := 0) (b := 39) (by decide) (by decide), Option.bind_some, gd]
  by_cases g1 : isB (g0 σ) bar
  · rw [if_pos g1]
    by_cases g2 : wi l 0 999
    · rw [if_pos g2]
      by_cases g3 : wi a 12 999
      · rw [if_pos g3]
        by_cases g4 : wi b 12 999
        · rw [if_pos g4]
          by_cases g5 : wi (b - a) 0 39
          · rw [if_pos g5, if_pos ⟨g1, g2, g3, g4, g5⟩]
          · rw [if_neg g5, if_neg (fun q => g5 q.2.2.2.2)]
        · rw [if_neg g4, if_neg (fun q => g4 q.2.2.2.1)]
      · rw [if_neg g3, if_neg (fun q => g3 q.2.2.1)]
    · rw [if_neg g2, if_neg (fun q => g2 q.2.1)]
  · rw [if_neg g1, if_neg (fun q => g1 q.1)]
theorem okPd_n {a b : Int32} (h : okPd a b) : ∃ x k : Nat, 12 ≤ x ∧ x + k ≤ 999 ∧ a = nI x ∧ b = nI (x + k) := by
  obtain ⟨h1, h2, h3⟩ := h
  have q1 := wi_i.mp h1
  have q2 := wi_i.mp h2
  have q3 := wi_i.mp h3
  have e12 : (12 : Int32).toInt = 12 := by decide
  have e9 : (999 : Int32).toInt = 999 := by decide
  have e0 : (0 : Int32).toInt = 0 := by decide
  rw [e12, e9] at q1 q2
  have s : (b - a).toInt = b.toInt - a.toInt := i_sub (by omega) (by omega)
  rw [s, e0] at q3
  refine ⟨a.toInt.toNat, (b.toInt - a.toInt).toNat, by omega, by omega, ?_, ?_⟩
  · rw [i_eq, nI_toInt (by omega)]; omega
  · rw [i_eq, nI_toInt (by omega)]; omega
theorem pd_in {x : Nat} (h1 : 12 ≤ x) (h2 : x ≤ 999) : wi (nI x) 12 999 := by
  have e12 : (12 : Int32).toInt = 12 := by decide
  have e9 : (999 : Int32).toInt = 999 := by decide
  rw [wi_i, nI_toInt (by omega), e12, e9]
  omega
/-- the best of k more periods from p on -/
def stB (g : Int32 → Int32) : Nat → Nat → Int32 → Int32 → Int32
  | 0, _, b, _ => b
  | k + 1, p, b, m => if m < g (nI p) then stB g k (p + 1) (nI p) (g (nI p)) else stB g k (p + 1) b m
def sp_stars (σ : Sg) (bar l a b : Int32) : An := if isB (g0 σ) bar ∧ wi l 0 999 ∧ okPd a b then (stB (sprd (g0 σ) bar l) (b - a).toNatClampNeg (a.toNatClampNeg + 1) a (sprd (g0 σ) bar l a), σ) else er σ 1
theorem I_stars {σ : Sg} (h : Ig σ) (bar l a b : Int32) : Ig (sp_stars σ bar l a b).2 := by
  unfold sp_stars
  by_cases g : isB (g0 σ) bar ∧ wi l 0 999 ∧ okPd a b
  · rw [if_pos g]; exact h
  · rw [if_neg g]; exact h.er 1
theorem C_starsL {N : Nat} {σ : Sg} {bar l : Int32} (hI : Ig σ) (hN : 2000 ≤ N) {e : Nat} (he : e ≤ 999) : ∀ (k p f : Nat) (M : Mm) (b m : Int32), p + k = e + 1 → 12 ≤ p → k < f → RelC M σ → Kp M 109 (g0 σ) (ctd (g0 σ) bar l) → DoC M (LX10_stars_68 N f M 0 (nI e) b m (nI p)) (stB (sprd (g0 σ) bar l) k p b m, σ) := by
  intro k
  induction k with
  | zero =>
    intro p f M b m hk hp hf h hK
    obtain ⟨f, rfl⟩ : ∃ g, f = g + 1 := ⟨f - 1, by omega⟩
    show DoC M (BX10_stars_68 N (LX10_stars_68 N f) M 0 _ _ _ _) _
    unfold BX10_stars_68
    rw [if_pos (nI_lt (by omega) (by omega))]
    exact DoC.same h
  | succ k ih =>
    intro p f M b m hk hp hf h hK
    obtain ⟨f, rfl⟩ : ∃ g, f = g + 1 := ⟨f - 1, by omega⟩
    obtain ⟨M1, b1, b2, b3, b4⟩ := C_spread1 (N := N) h hI hN hK (pd_in hp (show p ≤ 999 by omega))
    show DoC M (BX10_stars_68 N (LX10_stars_68 N f) M 0 _ _ _ _) _
    unfold BX10_stars_68
    simp only [h.q6, b1, bd2_s, Option.bind_some, nI_1]
    rw [if_neg (nI_nlt (by omega) (by omega))]
    show DoC M _ (if m < sprd (g0 σ) bar l (nI p) then stB (sprd (g0 σ) bar l) k (p + 1) (nI p) (sprd (g0 σ) bar l (nI p)) else stB (sprd (g0 σ) bar l) k (p + 1) b m, σ)
    by_cases z : m < sprd (g0 σ) bar l (nI p)
    · rw [if_neg (Int32.not_le.mpr z), if_pos z]
      exact DoC.tr b4 (ih (p + 1) f M1 _ _ (by omega) (by omega) (by omega) b2 b3)
    · rw [if_pos (Int32.not_lt.mp z), if_neg z]
      exact DoC.tr b4 (ih (p + 1) f M1 _ _ (by omega) (by omega) (by omega) b2 b3)
theorem pd_sub {x k : Nat} : (nI (x + k) - nI x) = nI k := by
  rw [pk_sub (by omega), Nat.add_sub_cancel_left]
theorem C_stars {N : Nat} {M : Mm} {σ : Sg} (h : RelC M σ) (hI : Ig σ) (hN : 2000 ≤ N) (bar l a c : Int32) : DoC M (fX10_stars N M 0 bar l a c) (sp_stars σ bar l a c) := by
  have J := DoC.er h (a := 1) 1 rfl (by decide)
  have hb6 : (sr (g0 σ) 1).length ≤ 6 := hI.1.L 1 (by decide)
  unfold fX10_stars sp_stars jX10_stars_24
  simp only [h.c, C_isBar h, C_isLine, C_arePeriods, Option.bind_some, gd]
  by_cases g : isB (g0 σ) bar ∧ wi l 0 999 ∧ okPd a c
  · rw [if_pos g, if_pos g.1, if_pos g.2.1, if_pos g.2.2]
    obtain ⟨b, hb, rfl⟩ := (wi_n (by omega)).mp g.1
    obtain ⟨M1, M2, a1, a2, a3, a4, a5, a6⟩ := C_hk (N := N) (t := 109) h hI (Or.inr (Or.inr rfl)) hN hb l
    obtain ⟨M3, b1, b2, b3, b4⟩ := C_spread1 (N := N) a4 hI hN a5 g.2.2.1
    simp only [h.q0, h.q6, a1, a2.q6, a3, a4.q6, b1, bd2_s, Option.bind_some]
    obtain ⟨x, k, x1, x2, rfl, rfl⟩ := okPd_n g.2.2
    rw [pd_sub, nI_clamp (show k < 2 ^ 31 by omega), nI_clamp (show x < 2 ^ 31 by omega), nI_1]
    exact DoC.tr (a6.trans b4) (C_starsL (N := N) hI hN x2 k (x + 1) N M3 _ _ (by omega) (by omega) (by omega) b2 b3)
  · rw [if_neg g]
    by_cases g1 : isB (g0 σ) bar
    · rw [if_pos g1]
      by_cases g2 : wi l 0 999
      · rw [if_pos g2, if_neg (fun q => g ⟨g1, g2, q⟩)]; exact J
      · rw [if_neg g2]; exact J
    · rw [if_neg g1]; exact J
theorem T_starsL {N : Nat} {F : Nat → Int32} {σ : Sg} {bar l : Int32} (hI : Ig σ) (hN : 2000 ≤ N) {e : Nat} (he : e ≤ 999) : ∀ (k p f : Nat) (M : Mm) (A : Nat → Nat → Int32) (b m : Int32), p + k = e + 1 → 12 ≤ p → k < f → TwAt M F A → TwR F A σ → RdA A (g0 σ) (sr (g0 σ) 2).length → DoT M (LX11_stars_39 N f M 137 bar l (nI e) b m (nI p)) (stB (sprd (g0 σ) bar l) k p b m, σ) := by
  intro k
  induction k with
  | zero =>
    intro p f M A b m hk hp hf h r hd
    obtain ⟨f, rfl⟩ : ∃ g, f = g + 1 := ⟨f - 1, by omega⟩
    show DoT M (BX11_stars_39 N (LX11_stars_39 N f) M 137 _ _ _ _ _ _) _
    unfold BX11_stars_39
    rw [if_pos (nI_lt (by omega) (by omega))]
    exact DoT.same ⟨F, A, h, r⟩
  | succ k ih =>
    intro p f M A b m hk hp hf h r hd
    obtain ⟨f, rfl⟩ : ∃ g, f = g + 1 := ⟨f - 1, by omega⟩
    obtain ⟨M1, A1, b1, b2, b3, b4, b5⟩ := T_spread1 (N := N) (bar := bar) (l := l) h r hd hI (pd_in hp (show p ≤ 999 by omega)) hN
    show DoT M (BX11_stars_39 N (LX11_stars_39 N f) M 137 _ _ _ _ _ _) _
    unfold BX11_stars_39
    simp only [b1, bd2_s, nI_1]
    rw [if_neg (nI_nlt (by omega) (by omega))]
    show DoT M _ (if m < sprd (g0 σ) bar l (nI p) then stB (sprd (g0 σ) bar l) k (p + 1) (nI p) (sprd (g0 σ) bar l (nI p)) else stB (sprd (g0 σ) bar l) k (p + 1) b m, σ)
    by_cases z : m < sprd (g0 σ) bar l (nI p)
    · rw [if_pos z, if_pos z]
      exact DoT.tr b5 (ih (p + 1) f M1 A1 _ _ (by omega) (by omega) (by omega) b2 b3 b4)
    · rw [if_neg z, if_neg z]
      exact DoT.tr b5 (ih (p + 1) f M1 A1 _ _ (by omega) (by omega) (by omega) b2 b3 b4)
theorem T_stars {N : Nat} {M : Mm} {σ : Sg} (h : RelT M σ) (hI : Ig σ) (hN : 2000 ≤ N) (bar l a c : Int32) : DoT M (fX11_stars N M 137 bar l a c) (sp_stars σ bar l a c) := by
  obtain ⟨F, A, k1, k2⟩ := id h
  have J := DoT.er h hI.2.2.1 (a := 1) 1 rfl (by decide)
  unfold fX11_stars sp_stars
  simp only [T_c k1, T_areStars k1 k2, Option.bind_some, gd]
  by_cases g : isB (g0 σ) bar ∧ wi l 0 999 ∧ okPd a c
  · rw [if_pos g, if_pos g]
    obtain ⟨M1, F1, A1, a1, a2, a3, a4, a5⟩ := T_readAll (N := N) h hI hN
    obtain ⟨M2, A2, b1, b2, b3, b4, b5⟩ := T_spread1 (N := N) (bar := bar) (l := l) a2 a3 a4 hI g.2.2.1 hN
    simp only [a1, b1, bd2_s, Option.bind_some]
    obtain ⟨x, k, x1, x2, rfl, rfl⟩ := okPd_n g.2.2
    rw [pd_sub, nI_clamp (show k < 2 ^ 31 by omega), nI_clamp (show x < 2 ^ 31 by omega), nI_1]
    exact DoT.tr (a5.trans b5) (T_starsL (N := N) hI hN x2 k (x + 1) N M2 A2 _ _ (by omega) (by omega) (by omega) b2 b3 b4)
  · rw [if_neg g, if_neg g]; exact J
/-- how many of k periods from p on have no less -/
def trB (g : Int32 → Int32) (m : Int32) : Nat → Nat → Int32 → Int32
  | 0, _, n => n
  | k + 1, p, n => if g (nI p) < m then trB g m k (p + 1) n else trB g m k (p + 1) (n + 1)
def sp_tried (σ : Sg) (bar l a b p : Int32) : An := if (isB (g0 σ) bar ∧ wi l 0 999 ∧ okPd a b) ∧ wi p 12 999 then (trB (sprd (g0 σ) bar l) (sprd (g0 σ) bar l p) ((b - a).toNatClampNeg + 1) a.toNatClampNeg 0, σ) else er σ 1
theorem I_tried {σ : Sg} (h : Ig σ) (bar l a b p : Int32) : Ig (sp_tried σ bar l a b p).2 := by
  unfold sp_tried
  by_cases g : (isB (g0 σ) bar ∧ wi l 0 999 ∧ okPd a b) ∧ wi p 12 999
  · rw [if_pos g]; exact h
  · rw [if_neg g]; exact h.er 1
theorem C_triedL {N : Nat} {σ : Sg} {bar l m : Int32} (hI : Ig σ) (hN : 2000 ≤ N) {e : Nat} (he : e ≤ 999) : ∀ (k p f : Nat) (M : Mm) (n : Int32), p + k = e + 1 → 12 ≤ p → k < f → RelC M σ → Kp M 109 (g0 σ) (ctd (g0 σ) bar l) → DoC M (LX10_tried_75 N f M 0 (nI e) m n (nI p)) (trB (sprd (g0 σ) bar l) m k p n, σ) := by
  intro k
  induction k with
  | zero =>
    intro p f M n hk hp hf h hK
    obtain ⟨f, rfl⟩ : ∃ g, f = g + 1 := ⟨f - 1, by omega⟩
    show DoC M (BX10_tried_75 N (LX10_tried_75 N f) M 0 _ _ _ _) _
    unfold BX10_tried_75
    rw [if_pos (nI_lt (by omega) (by omega))]
    exact DoC.same h
  | succ k ih =>
    intro p f M n hk hp hf h hK
    obtain ⟨f, rfl⟩ : ∃ g, f = g + 1 := ⟨f - 1, by omega⟩
    obtain ⟨M1, b1, b2, b3, b4⟩ := C_spread1 (N := N) h hI hN hK (pd_in hp (show p ≤ 999 by omega))
    show DoC M (BX10_tried_75 N (LX10_tried_75 N f) M 0 _ _ _ _) _
    unfold BX10_tried_75
    simp only [h.q6, b1, bd2_s, Option.bind_some, nI_1]
    rw [if_neg (nI_nlt (by omega) (by omega))]
    show DoC M _ (if sprd (g0 σ) bar l (nI p) < m then trB (sprd (g0 σ) bar l) m k (p + 1) n else trB (sprd (g0 σ) bar l) m k (p + 1) (n + 1), σ)
    by_cases z : sprd (g0 σ) bar l (nI p) < m
    · rw [if_pos z, if_pos z]
      exact DoC.tr b4 (ih (p + 1) f M1 _ (by omega) (by omega) (by omega) b2 b3)
    · rw [if_neg z, if_neg z]
      exact DoC.tr b4 (ih (p + 1) f M1 _ (by omega) (by omega) (by omega) b2 b3)
theorem C_tried {N : Nat} {M : Mm} {σ : Sg} (h : RelC M σ) (hI : Ig σ) (hN : 2000 ≤ N) (bar l a c p : Int32) : DoC M (fX10_tried N M 0 bar l a c p) (sp_tried σ bar l a c p) := by
  have J := DoC.er h (a := 1) 1 rfl (by decide)
  have hb6 : (sr (g0 σ) 1).length ≤ 6 := hI.1.L 1 (by decide)
  unfold fX10_tried sp_tried jX10_tried_32
  simp only [h.c, C_isBar h, C_isLine, C_arePeriods, C_isPeriod, Option.bind_some, gd]
  by_cases g : (isB (g0 σ) bar ∧ wi l 0 999 ∧ okPd a c) ∧ wi p 12 999
  · rw [if_pos g, if_pos g.1.1, if_pos g.1.2.1, if_pos g.1.2.2, if_pos g.2]
    obtain ⟨⟨gb, gl, gp⟩, gq⟩ := g
    obtain ⟨b, hb, rfl⟩ := (wi_n (by omega)).mp gb
    obtain ⟨M1, M2, a1, a2, a3, a4, a5, a6⟩ := C_hk (N := N) (t := 109) h hI (Or.inr (Or.inr rfl)) hN hb l
    obtain ⟨M3, b1, b2, b3, b4⟩ := C_spread1 (N := N) a4 hI hN a5 gq
    simp only [h.q0, h.q6, a1, a2.q6, a3, a4.q6, b1, bd2_s, Option.bind_some]
    obtain ⟨x, k, x1, x2, rfl, rfl⟩ := okPd_n gp
    rw [pd_sub, nI_clamp (show k < 2 ^ 31 by omega), nI_clamp (show x < 2 ^ 31 by omega)]
    exact DoC.tr (a6.trans b4) (C_triedL (N := N) hI hN x2 (k + 1) x N M3 _ (by omega) (by omega) (by omega) b2 b3)
  · rw [if_neg g]
    by_cases g1 : isB (g0 σ) bar
    · rw [if_pos g1]
      by_cases g2 : wi l 0 999
      · rw [if_pos g2]
        by_cases g3 : okPd a c
        · rw [if_pos g3, if_neg (fun q => g ⟨⟨g1, g2, g3⟩, q⟩)]; exact J
        · rw [if_neg g3]; exact J
      · rw [if_neg g2]; exact J
    · rw [if_neg g1]; exact J
theorem T_triedL {N : Nat} {F : Nat → Int32} {σ : Sg} {bar l m : Int32} (hI : Ig σ) (hN : 2000 ≤ N) {e : Nat} (he : e ≤ 999) : ∀ (k p f : Nat) (M : Mm) (A : Nat → Nat → Int32) (n : Int32), p + k = e + 1 → 12 ≤ p → k < f → TwAt M F A → TwR F A σ → RdA A (g0 σ) (sr (g0 σ) 2).length → DoT M (LX11_tried_46 N f M 137 bar l (nI e) m n (nI p)) (trB (sprd (g0 σ) bar l) m k p n, σ) := by
  intro k
  induction k with
  | zero =>
    intro p f M A n hk hp hf h r hd
    obtain ⟨f, rfl⟩ : ∃ g, f = g + 1 := ⟨f - 1, by omega⟩
    show DoT M (BX11_tried_46 N (LX11_tried_46 N f) M 137 _ _ _ _ _ _) _
    unfold BX11_tried_46
    rw [if_pos (nI_lt (by omega) (by omega))]
    exact DoT.same ⟨F, A, h, r⟩
  | succ k ih =>
    intro p f M A n hk hp hf h r hd
    obtain ⟨f, rfl⟩ : ∃ g, f = g + 1 := ⟨f - 1, by omega⟩
    obtain ⟨M1, A1, b1, b2, b3, b4, b5⟩ := T_spread1 (N := N) (bar := bar) (l := l) h r hd hI (pd_in hp (show p ≤ 999 by omega)) hN
    show DoT M (BX11_tried_46 N (LX11_tried_46 N f) M 137 _ _ _ _ _ _) _
    unfold BX11_tried_46
    simp only [b1, bd2_s, nI_1, Int32.add_zero]
    rw [if_neg (nI_nlt (by omega) (by omega))]
    show DoT M _ (if sprd (g0 σ) bar l (nI p) < m then trB (sprd (g0 σ) bar l) m k (p + 1) n else trB (sprd (g0 σ) bar l) m k (p + 1) (n + 1), σ)
    by_cases z : sprd (g0 σ) bar l (nI p) < m
    · rw [if_pos z, if_pos z]
      exact DoT.tr b5 (ih (p + 1) f M1 A1 _ (by omega) (by omega) (by omega) b2 b3 b4)
    · rw [if_neg z, if_neg z]
      exact DoT.tr b5 (ih (p + 1) f M1 A1 _ (by omega) (by omega) (by omega) b2 b3 b4)
theorem T_tried {N : Nat} {M : Mm} {σ : Sg} (h : RelT M σ) (hI : Ig σ) (hN : 2000 ≤ N) (bar l a c p : Int32) : DoT M (fX11_tried N M 137 bar l a c p) (sp_tried σ bar l a c p) := by
  obtain ⟨F, A, k1, k2⟩ := id h
  have J := DoT.er h hI.2.2.1 (a := 1) 1 rfl (by decide)
  unfold fX11_tried sp_tried jX11_tried_20
  simp only [T_c k1, T_areStars k1 k2, T_isPeriod, Option.bind_some, gd]
  by_cases g : (isB (g0 σ) bar ∧ wi l 0 999 ∧ okPd a c) ∧ wi p 12 999
  · rw [if_pos g, if_pos g.1, if_pos g.2]
    obtain ⟨M1, F1, A1, a1, a2, a3, a4, a5⟩ := T_readAll (N := N) h hI hN
    obtain ⟨M2, A2, b1, b2, b3, b4, b5⟩ := T_spread1 (N := N) (bar := bar) (l := l) a2 a3 a4 hI g.2 hN
    simp only [a1, b1, bd2_s, Option.bind_some]
    obtain ⟨x, k, x1, x2, rfl, rfl⟩ := okPd_n g.1.2.2
    rw [pd_sub, nI_clamp (show k < 2 ^ 31 by omega), nI_clamp (show x < 2 ^ 31 by omega)]
    exact DoT.tr (a5.trans b5) (T_triedL (N := N) hI hN x2 (k + 1) x N M2 A2 _ (by omega) (by omega) (by omega) b2 b3 b4)
  · rw [if_neg g]
    by_cases g1 : isB (g0 σ) bar ∧ wi l 0 999 ∧ okPd a c
    · rw [if_pos g1, if_neg (fun q => g ⟨g1, q⟩)]; exact J
    · rw [if_neg g1]; exact J
