/-! meeting in the reference; meets -/
theorem T_isMetL {N : Nat} {M : Mm} {F : Nat → Int32} {A : Nat → Nat → Int32} {σ : Sg} {b l w d : Int32} (h : TwAt M F A) (r : TwR F A σ) (hd : RdA A (g0 σ) (sr (g0 σ) 2).length) (hI : Ig σ) {x : Nat} (hx : x < (sr (g0 σ) 2).length) : ∀ (k i f : Nat), i + k = (sr (g0 σ) 2).length → k < f → (List.range i).any (fun o => decide ((sr (g0 σ) 2).getD o 0 = b ∧ cnt (g0 σ) l o) && decide (¬ (shn (g0 σ) x - shn (g0 σ) o - d) < -w ∧ ¬ w < (shn (g0 σ) x - shn (g0 σ) o - d))) = false → LX11_isMet_3 N f M 137 (nI x) b l w d (nI i) = some (if metB (g0 σ) b l w d x = true then 1 else 0) := by
  have hl : (sr (g0 σ) 2).length ≤ 96 := hI.1.L 2 (by decide)
  have em : metB (g0 σ) b l w d x = (List.range (sr (g0 σ) 2).length).any (fun o => decide ((sr (g0 σ) 2).getD o 0 = b ∧ cnt (g0 σ) l o) && decide (¬ (shn (g0 σ) x - shn (g0 σ) o - d) < -w ∧ ¬ w < (shn (g0 σ) x - shn (g0 σ) o - d))) := by
    unfold metB
    exact ctd_any _ _ _ _
  have r4 : gQ M 11 137 4 = some 141 := T_ref h rfl
  have sh : ∀ y, y < (sr (g0 σ) 2).length → aI M 0 141 (nI y) = some (shn (g0 σ) y) := fun y hy => by
    rw [← (hd y hy).1]; exact T_get h 3 (by decide) (show y < 96 by omega)
  intro k
  induction k with
  | zero =>
    intro i f hk hf hn
    obtain ⟨f, rfl⟩ : ∃ g, f = g + 1 := ⟨f - 1, by omega⟩
    have e : i = (sr (g0 σ) 2).length := by omega
    subst e
    show BX11_isMet_3 N (LX11_isMet_3 N f) M 137 _ _ _ _ _ _ = _
    unfold BX11_isMet_3
    simp only [T_q0 h, (T_cnt h r).2.1, Option.bind_some]
    rw [if_pos (nI_le (Nat.le_refl _) (by omega)), em, hn, if_neg (by decide)]
  | succ k ih =>
    intro i f hk hf hn
    obtain ⟨f, rfl⟩ : ∃ g, f = g + 1 := ⟨f - 1, by omega⟩
    have hi : i < (sr (g0 σ) 2).length := by omega
    have q := ih (i + 1) f (by omega) (by omega)
    rw [any_s, hn, Bool.false_or] at q
    have ein : fX11_in M (shn (g0 σ) x - shn (g0 σ) i - d).toInt64 (-w).toInt64 w.toInt64 = some (if wi (shn (g0 σ) x - shn (g0 σ) i - d) (-w) w then 1 else 0) := T_in M rfl rfl
    show BX11_isMet_3 N (LX11_isMet_3 N f) M 137 _ _ _ _ _ _ = _
    unfold BX11_isMet_3
    simp only [T_q0 h, (T_cnt h r).2.1, T_isCounted h r hd hI hi, r4, sh x hx, sh i hi, ein, Option.bind_some, gd, nI_1]
    rw [if_neg (nI_ge hi (by omega))]
    by_cases z : (sr (g0 σ) 2).getD i 0 = b ∧ cnt (g0 σ) l i
    · rw [if_pos z]
      by_cases y : wi (shn (g0 σ) x - shn (g0 σ) i - d) (-w) w
      · rw [if_pos y]
        have : metB (g0 σ) b l w d x = true := by
          rw [em, List.any_eq_true]
          exact ⟨i, List.mem_range.mpr hi, by rw [decide_eq_true z, decide_eq_true y]; rfl⟩
        rw [if_pos this]
      · rw [if_neg y]
        exact q (by rw [decide_eq_false y, Bool.and_false])
    · rw [if_neg z]
      exact q (by rw [decide_eq_false z, Bool.false_and])
theorem T_isMet {N : Nat} {M : Mm} {F : Nat → Int32} {A : Nat → Nat → Int32} {σ : Sg} (h : TwAt M F A) (r : TwR F A σ) (hd : RdA A (g0 σ) (sr (g0 σ) 2).length) (hI : Ig σ) (hN : 2000 ≤ N) {x : Nat} (hx : x < (sr (g0 σ) 2).length) (b l w d : Int32) : fX11_isMet N M 137 (nI x) b l w d = some (if metB (g0 σ) b l w d x = true then 1 else 0) := by
  have hl : (sr (g0 σ) 2).length ≤ 96 := hI.1.L 2 (by decide)
  have q := T_isMetL (N := N) (b := b) (l := l) (w := w) (d := d) h r hd hI hx (sr (g0 σ) 2).length 0 N (by omega) (by omega) rfl
  simp only [fX11_isMet, T_c h, Option.bind_some]
  exact q
theorem metL_len (S : St) (a b l w d : Int32) : (metL S a b l w d).length = (List.range (sr S 2).length).countP (fun r => decide ((sr S 2).getD r 0 = a ∧ cnt S l r) && metB S b l w d r) := by
  unfold metL
  rw [← List.countP_eq_length_filter]
  exact ctd_cnt _ _ _ _
theorem T_metL {N : Nat} {M : Mm} {F : Nat → Int32} {A : Nat → Nat → Int32} {σ : Sg} {ab l w d : Int32} (h : TwAt M F A) (r : TwR F A σ) (hd : RdA A (g0 σ) (sr (g0 σ) 2).length) (hI : Ig σ) (hN : 2000 ≤ N) : ∀ (k i f : Nat), i + k = (sr (g0 σ) 2).length → k < f → LX11_met_6 N f M 137 ab l w d (nI ((List.range i).countP (fun r => decide ((sr (g0 σ) 2).getD r 0 = ab / 10 ∧ cnt (g0 σ) l r) && metB (g0 σ) (rmI ab 10) l w d r))) (nI i) = some (nI (metL (g0 σ) (ab / 10) (rmI ab 10) l w d).length) := by
  have hl : (sr (g0 σ) 2).length ≤ 96 := hI.1.L 2 (by decide)
  intro k
  induction k with
  | zero =>
    intro i f hk hf
    obtain ⟨f, rfl⟩ : ∃ g, f = g + 1 := ⟨f - 1, by omega⟩
    have e : i = (sr (g0 σ) 2).length := by omega
    subst e
    show BX11_met_6 N (LX11_met_6 N f) M 137 _ _ _ _ _ _ = _
    unfold BX11_met_6
    simp only [T_q0 h, (T_cnt h r).2.1, Option.bind_some]
    rw [if_pos (nI_le (Nat.le_refl _) (by omega)), metL_len]
  | succ k ih =>
    intro i f hk hf
    obtain ⟨f, rfl⟩ : ∃ g, f = g + 1 := ⟨f - 1, by omega⟩
    have hi : i < (sr (g0 σ) 2).length := by omega
    have q := ih (i + 1) f (by omega) (by omega)
    rw [cP_s] at q
    show BX11_met_6 N (LX11_met_6 N f) M 137 _ _ _ _ _ _ = _
    unfold BX11_met_6
    simp only [T_q0 h, (T_cnt h r).2.1, T_isCounted h r hd hI hi, T_isMet h r hd hI hN hi, Option.bind_some, gd, nI_1, Int32.add_zero]
    rw [if_neg (nI_ge hi (by omega))]
    by_cases z : (sr (g0 σ) 2).getD i 0 = ab / 10 ∧ cnt (g0 σ) l i
    · rw [if_pos z]
      by_cases y : metB (g0 σ) (rmI ab 10) l w d i = true
      · rw [if_pos y]
        rw [if_pos (by rw [decide_eq_true z, y]; rfl)] at q
        exact q
      · rw [if_neg y]
        rw [if_neg (by rw [Bool.not_eq_true] at y; rw [y, Bool.and_false]; decide)] at q
        exact q
    · rw [if_neg z]
      rw [if_neg (by rw [decide_eq_false z, Bool.false_and]; decide)] at q
      exact q
def mt (S : St) (ab l w d : Int32) : Nat := (metL S (ab / 10) (rmI ab 10) l w d).length
theorem mt_le {S : St} (h : Iv S) (ab l w d : Int32) : mt S ab l w d ≤ 96 := Nat.le_trans (List.length_filter_le _ _) (ctd_len h _ _)
theorem T_met {N : Nat} {M : Mm} {F : Nat → Int32} {A : Nat → Nat → Int32} {σ : Sg} (h : TwAt M F A) (r : TwR F A σ) (hd : RdA A (g0 σ) (sr (g0 σ) 2).length) (hI : Ig σ) (hN : 2000 ≤ N) (ab l w d : Int32) : fX11_met N M 137 ab l w d = some (nI (mt (g0 σ) ab l w d)) := by
  have hl : (sr (g0 σ) 2).length ≤ 96 := hI.1.L 2 (by decide)
  have q := T_metL (N := N) (ab := ab) (l := l) (w := w) (d := d) h r hd hI hN (sr (g0 σ) 2).length 0 N (by omega) (by omega)
  simp only [fX11_met, T_c h, Option.bind_some]
  exact q
theorem C_mt {N : Nat} {M : Mm} {σ : Sg} {ab l w d : Int32} (h : RelC M σ) (hI : Ig σ) (hN : 2000 ≤ N) (hK : KpP M (g0 σ) (ab / 10) (rmI ab 10) l) (hw : wi w 0 50) (hd : okD d) : ∃ M', fX1_meeting N M 74 w d = some (nI (mt (g0 σ) ab l w d), M') ∧ RelC M' σ ∧ Rw M' 105 96 ((metL (g0 σ) (ab / 10) (rmI ab 10) l w d).map nI) ∧ KpP M' (g0 σ) (ab / 10) (rmI ab 10) l ∧ Of (fun k => k = 105 ∨ k = 105 + 1) M M' := C_meeting h hI hN hK hw hd
def sp_meets (σ : Sg) (ab l w d : Int32) : An := if isP (g0 σ) ab ∧ wi l 0 999 ∧ wi w 0 50 ∧ wi d (-9999) 9999 then (nI (mt (g0 σ) ab l w d), σ) else er σ 1
theorem I_meets {σ : Sg} (h : Ig σ) (ab l w d : Int32) : Ig (sp_meets σ ab l w d).2 := by
  unfold sp_meets
  by_cases g : isP (g0 σ) ab ∧ wi l 0 999 ∧ wi w 0 50 ∧ wi d (-9999) 9999
  · rw [if_pos g]; exact h
  · rw [if_neg g]; exact h.er 1
theorem okD_w {d x y : Int32} (h : wi d x y) (hx : -100000 ≤ x.toInt) (hy : y.toInt ≤ 100000) : okD d := by
  rw [wi_i] at h
  exact ⟨by omega, by omega⟩
theorem C_meets {N : Nat} {M : Mm} {σ : Sg} (h : RelC M σ) (hI : Ig σ) (hN : 2000 ≤ N) (ab l w d : Int32) : DoC M (fX10_meets N M 0 ab l w d) (sp_meets σ ab l w d) := by
  have J := DoC.er h (a := 1) 1 rfl (by decide)
  unfold fX10_meets sp_meets jX10_meets_36
  simp only [h.c, C_isPair h, C_isLine, C_isWindow, C_within, Option.bind_some, gd]
  by_cases g : isP (g0 σ) ab ∧ wi l 0 999 ∧ wi w 0 50 ∧ wi d (-9999) 9999
  · rw [if_pos g, if_pos g.1, if_pos g.2.1, if_pos g.2.2.1, if_pos g.2.2.2]
    obtain ⟨M1, a1, a2, a3, a4⟩ := C_hearP (N := N) h hI hN g.1
    obtain ⟨M2, b1, b2, b3, b4, b5⟩ := C_drawP (N := N) a2 hI hN a3 l
    obtain ⟨M3, c1, c2, c3, c4, c5⟩ := C_mt (N := N) b2 hI hN b4 g.2.2.1 (okD_w g.2.2.2 (by decide) (by decide))
    simp only [h.q0, h.q5, a1, a2.q5, b1, b2.q5, c1, bd2_s, Option.bind_some]
    exact ⟨M3, rfl, c2, a4.trans ((b5.frC (fun k q => by omega)).trans (c5.frC (fun k q => by omega)))⟩
  · rw [if_neg g]
    by_cases g1 : isP (g0 σ) ab
    · rw [if_pos g1]
      by_cases g2 : wi l 0 999
      · rw [if_pos g2]
        by_cases g3 : wi w 0 50
        · rw [if_pos g3, if_neg (fun q => g ⟨g1, g2, g3, q⟩)]; exact J
        · rw [if_neg g3]; exact J
      · rw [if_neg g2]; exact J
    · rw [if_neg g1]; exact J
theorem T_meets {N : Nat} {M : Mm} {σ : Sg} (h : RelT M σ) (hI : Ig σ) (hN : 2000 ≤ N) (ab l w d : Int32) : DoT M (fX11_meets N M 137 ab l w d) (sp_meets σ ab l w d) := by
  obtain ⟨F, A, k1, k2⟩ := id h
  have J := DoT.er h hI.2.2.1 (a := 1) 1 rfl (by decide)
  unfold fX11_meets sp_meets jX11_meets_37
  simp only [T_c k1, T_isPair k1 k2, T_isLine, T_isWindow, show fX11_in M d.toInt64 (-9999) 9999 = some (if wi d (-9999) 9999 then 1 else 0) from T_in M (a := -9999) (b := 9999) (by decide) (by decide), Option.bind_some, gd]
  by_cases g : isP (g0 σ) ab ∧ wi l 0 999 ∧ wi w 0 50 ∧ wi d (-9999) 9999
  · rw [if_pos g, if_pos g.1, if_pos g.2.1, if_pos g.2.2.1, if_pos g.2.2.2]
    obtain ⟨M1, F1, A1, a1, a2, a3, a4, a5⟩ := T_readAll (N := N) h hI hN
    simp only [a1, T_met a2 a3 a4 hI hN, Option.bind_some]
    exact ⟨M1, rfl, ⟨F1, A1, a2, a3⟩, a5⟩
  · rw [if_neg g]
    by_cases g1 : isP (g0 σ) ab
    · rw [if_pos g1]
      by_cases g2 : wi l 0 999
      · rw [if_pos g2]
        by_cases g3 : wi w 0 50
        · rw [if_pos g3, if_neg (fun q => g ⟨g1, g2, g3, q⟩)]; exact J
        · rw [if_neg g3]; exact J
      · rw [if_neg g2]; exact J
    · rw [if_neg g1]; exact J
