def sp_bar (σ : Sg) (a : Int32) : An := if wi a 0 2 then (if (sr (g0 σ) 1).length < 6 then (nI (sr (g0 σ) 1).length, adS σ 1 a) else er σ 4) else er σ 1
theorem C_bar {M : Mm} {σ : Sg} (h : RelC M σ) (hI : Ig σ) (a : Int32) : DoC M (fX10_bar M 0 a) (sp_bar σ a) := by
  have hc : (sr (g0 σ) 1).length ≤ 6 := hI.1.L 1 (by decide)
  unfold fX10_bar sp_bar
  simp only [h.c, Option.bind_some]
  by_cases h1 : wi a 0 2
  · rw [C_in h1, if_pos h1]
    simp only [Option.bind_some, i10, h.q0, h.f1]
    by_cases hl : (sr (g0 σ) 1).length < 6
    · obtain ⟨M', e1, e2, e3⟩ := R_add h.w1 a hl
      have h' := h.u1 e3 e2
      rw [if_pos hl]
      refine ⟨M', ?_, h', e3.frC (fun q z => by omega)⟩
      simp only [e1, bd2_s, i10, h'.q0, h'.f1, R_size h'.w1, Option.bind_some]
      show some (nI ((sr (g0 σ) 1 ++ [a]).length) - 1, M') = _
      rw [List.length_append, List.length_singleton, nI_pred]
    · rw [if_neg hl, R_full h.w1 a (by omega)]
      simp only [bd2_s, i00]
      exact DoC.er h 4 rfl (by decide)
  · rw [C_out h1, if_neg h1]
    simp only [Option.bind_some, i00]
    exact DoC.er h 1 rfl (by decide)
theorem T_bar {M : Mm} {σ : Sg} (h : RelT M σ) (hI : Ig σ) (a : Int32) : DoT M (fX11_bar M 137 a) (sp_bar σ a) := by
  have hc : (sr (g0 σ) 1).length ≤ 6 := hI.1.L 1 (by decide)
  obtain ⟨F, A, h1, r⟩ := id h
  have cn := (T_cnt h1 r).1
  unfold fX11_bar sp_bar
  simp only [T_c h1, Option.bind_some]
  by_cases g1 : wi a 0 2
  · rw [T_yes M (a := 0) (b := 2) (by decide) (by decide) g1, if_pos g1]
    simp only [Option.bind_some, i10, T_q0 h1, cn]
    by_cases hl : (sr (g0 σ) 1).length < 6
    · obtain ⟨M1, M2, e1, e2, e3, e4, e5, e6, e7, e8⟩ := T_addrow h1 r hI.1 (i := 1) (by decide) hl a
      have ex : (12 : Int32) + nI (sr (g0 σ) 1).length = nI (tix 1 (sr (g0 σ) 1).length) := by rw [show tix 1 (sr (g0 σ) 1).length = 12 + (sr (g0 σ) 1).length from by simp [tix, tb, ts]]; exact nI_add 12 _
      have e3' : aI M1 0 138 0 = some (nI (sr (g0 σ) 1).length) := e3
      have e4' : sI M1 0 138 0 (nI (sr (g0 σ) 1).length + 1) = some M2 := e4
      have e6' : aI M2 0 138 0 = some (nI ((sr (g0 σ) 1).length + 1)) := e6
      rw [if_pos hl, if_neg (fun q => by have := (nI_eq (a := (sr (g0 σ) 1).length) (b := 6) (by omega) (by decide)).mp q; omega)]
      refine ⟨M2, ?_, e7, e8⟩
      simp only [ex, e1, e2, e3', e4', e5, e6', Option.bind_some, nI_pred]
    · rw [if_neg hl, if_pos (by rw [show (sr (g0 σ) 1).length = 6 by omega]; rfl)]
      exact DoT.er h hI.2.2.1 4 rfl (by decide)
  · rw [T_no M (a := 0) (b := 2) (by decide) (by decide) g1, if_neg g1]
    simp only [Option.bind_some, i00]
    exact DoT.er h hI.2.2.1 1 rfl (by decide)
def sp_line (σ : Sg) (a : Int32) : An := if wi a 0 999 then (if (sr (g0 σ) 6).length < 6 then (nI (sr (g0 σ) 6).length, adS σ 6 a) else er σ 4) else er σ 1
theorem C_line {M : Mm} {σ : Sg} (h : RelC M σ) (hI : Ig σ) (a : Int32) : DoC M (fX10_line M 0 a) (sp_line σ a) := by
  have hc : (sr (g0 σ) 6).length ≤ 6 := hI.1.L 6 (by decide)
  unfold fX10_line sp_line
  simp only [h.c, Option.bind_some, fX10_isLine]
  by_cases h1 : wi a 0 999
  · rw [C_in h1, if_pos h1]
    simp only [Option.bind_some, i10, h.q0, h.f6, zr1]
    by_cases hl : (sr (g0 σ) 6).length < 6
    · obtain ⟨M', e1, e2, e3⟩ := R_add h.w6 a hl
      have h' := h.u6 e3 e2
      rw [if_pos hl]
      refine ⟨M', ?_, h', e3.frC (fun q z => by omega)⟩
      simp only [e1, bd2_s, i10, h'.q0, h'.f6, R_size h'.w6, Option.bind_some]
      show some (nI ((sr (g0 σ) 6 ++ [a]).length) - 1, M') = _
      rw [List.length_append, List.length_singleton, nI_pred]
    · rw [if_neg hl, R_full h.w6 a (by omega)]
      simp only [bd2_s, i00]
      exact DoC.er h 4 rfl (by decide)
  · rw [C_out h1, if_neg h1]
    simp only [Option.bind_some, i00, zr0]
    exact DoC.er h 1 rfl (by decide)
theorem T_line {M : Mm} {σ : Sg} (h : RelT M σ) (hI : Ig σ) (a : Int32) : DoT M (fX11_line M 137 a) (sp_line σ a) := by
  have hc : (sr (g0 σ) 6).length ≤ 6 := hI.1.L 6 (by decide)
  obtain ⟨F, A, h1, r⟩ := id h
  have cn := (T_cnt h1 r).2.2.2.1
  unfold fX11_line sp_line
  simp only [T_c h1, Option.bind_some, fX11_isLine]
  by_cases g1 : wi a 0 999
  · rw [T_yes M (a := 0) (b := 999) (by decide) (by decide) g1, if_pos g1]
    simp only [Option.bind_some, i10, T_q0 h1, cn, zr1]
    by_cases hl : (sr (g0 σ) 6).length < 6
    · obtain ⟨M1, M2, e1, e2, e3, e4, e5, e6, e7, e8⟩ := T_addrow h1 r hI.1 (i := 6) (by decide) hl a
      have ex : (366 : Int32) + nI (sr (g0 σ) 6).length = nI (tix 6 (sr (g0 σ) 6).length) := by rw [show tix 6 (sr (g0 σ) 6).length = 366 + (sr (g0 σ) 6).length from by simp [tix, tb, ts]]; exact nI_add 366 _
      have e3' : aI M1 0 138 3 = some (nI (sr (g0 σ) 6).length) := e3
      have e4' : sI M1 0 138 3 (nI (sr (g0 σ) 6).length + 1) = some M2 := e4
      have e6' : aI M2 0 138 3 = some (nI ((sr (g0 σ) 6).length + 1)) := e6
      rw [if_pos hl, if_neg (fun q => by have := (nI_eq (a := (sr (g0 σ) 6).length) (b := 6) (by omega) (by decide)).mp q; omega)]
      refine ⟨M2, ?_, e7, e8⟩
      simp only [ex, e1, e2, e3', e4', e5, e6', Option.bind_some, nI_pred]
    · rw [if_neg hl, if_pos (by rw [show (sr (g0 σ) 6).length = 6 by omega]; rfl)]
      exact DoT.er h hI.2.2.1 4 rfl (by decide)
  · rw [T_no M (a := 0) (b := 999) (by decide) (by decide) g1, if_neg g1]
    simp only [Option.bind_some, i00, zr0]
    exact DoT.er h hI.2.2.1 1 rfl (by decide)
def sp_let (σ : Sg) (a : Int32) : An := if wi a 0 9999 then (if (sr (g0 σ) 7).length < 10 then (nI (sr (g0 σ) 7).length, adS σ 7 a) else er σ 4) else er σ 1
theorem C_let {M : Mm} {σ : Sg} (h : RelC M σ) (hI : Ig σ) (a : Int32) : DoC M (fX10_let M 0 a) (sp_let σ a) := by
  have hc : (sr (g0 σ) 7).length ≤ 10 := hI.1.L 7 (by decide)
  unfold fX10_let sp_let
  simp only [h.c, Option.bind_some, fX10_isTenth]
  by_cases h1 : wi a 0 9999
  · rw [C_in h1, if_pos h1]
    simp only [Option.bind_some, i10, h.q0, h.f7, zr1]
    by_cases hl : (sr (g0 σ) 7).length < 10
    · obtain ⟨M', e1, e2, e3⟩ := R_add h.w7 a hl
      have h' := h.u7 e3 e2
      rw [if_pos hl]
      refine ⟨M', ?_, h', e3.frC (fun q z => by omega)⟩
      simp only [e1, bd2_s, i10, h'.q0, h'.f7, R_size h'.w7, Option.bind_some]
      show some (nI ((sr (g0 σ) 7 ++ [a]).length) - 1, M') = _
      rw [List.length_append, List.length_singleton, nI_pred]
    · rw [if_neg hl, R_full h.w7 a (by omega)]
      simp only [bd2_s, i00]
      exact DoC.er h 4 rfl (by decide)
  · rw [C_out h1, if_neg h1]
    simp only [Option.bind_some, i00, zr0]
    exact DoC.er h 1 rfl (by decide)
theorem T_let {M : Mm} {σ : Sg} (h : RelT M σ) (hI : Ig σ) (a : Int32) : DoT M (fX11_let M 137 a) (sp_let σ a) := by
  have hc : (sr (g0 σ) 7).length ≤ 10 := hI.1.L 7 (by decide)
  obtain ⟨F, A, h1, r⟩ := id h
  have cn := (T_cnt h1 r).2.2.2.2.1
  unfold fX11_let sp_let
  simp only [T_c h1, Option.bind_some]
  by_cases g1 : wi a 0 9999
  · rw [T_yes M (a := 0) (b := 9999) (by decide) (by decide) g1, if_pos g1]
    simp only [Option.bind_some, i10, T_q0 h1, cn]
    by_cases hl : (sr (g0 σ) 7).length < 10
    · obtain ⟨M1, M2, e1, e2, e3, e4, e5, e6, e7, e8⟩ := T_addrow h1 r hI.1 (i := 7) (by decide) hl a
      have ex : (372 : Int32) + nI (sr (g0 σ) 7).length = nI (tix 7 (sr (g0 σ) 7).length) := by rw [show tix 7 (sr (g0 σ) 7).length = 372 + (sr (g0 σ) 7).length from by simp [tix, tb, ts]]; exact nI_add 372 _
      have e3' : aI M1 0 138 4 = some (nI (sr (g0 σ) 7).length) := e3
      have e4' : sI M1 0 138 4 (nI (sr (g0 σ) 7).length + 1) = some M2 := e4
      have e6' : aI M2 0 138 4 = some (nI ((sr (g0 σ) 7).length + 1)) := e6
      rw [if_pos hl, if_neg (fun q => by have := (nI_eq (a := (sr (g0 σ) 7).length) (b := 10) (by omega) (by decide)).mp q; omega)]
      refine ⟨M2, ?_, e7, e8⟩
      simp only [ex, e1, e2, e3', e4', e5, e6', Option.bind_some, nI_pred]
    · rw [if_neg hl, if_pos (by rw [show (sr (g0 σ) 7).length = 10 by omega]; rfl)]
      exact DoT.er h hI.2.2.1 4 rfl (by decide)
  · rw [T_no M (a := 0) (b := 9999) (by decide) (by decide) g1, if_neg g1]
    simp only [Option.bind_some, i00]
    exact DoT.er h hI.2.2.1 1 rfl (by decide)
def sp_tell (σ : Sg) (a : Int32) : An := if (sr (g0 σ) 12).length < 20 then (nI ((sr (g0 σ) 12).length + 1), adS σ 12 a) else er σ 4
theorem C_tell {M : Mm} {σ : Sg} (h : RelC M σ) (hI : Ig σ) (a : Int32) : DoC M (fX10_tell M 0 a) (sp_tell σ a) := by
  have hc : (sr (g0 σ) 12).length ≤ 20 := hI.1.L 12 (by decide)
  unfold fX10_tell sp_tell
  simp only [h.c, Option.bind_some, h.q0, h.f12]
  by_cases hl : (sr (g0 σ) 12).length < 20
  · obtain ⟨M', e1, e2, e3⟩ := R_add h.w12 a hl
    have h' := h.u12 e3 e2
    rw [if_pos hl]
    refine ⟨M', ?_, h', e3.frC (fun q z => by omega)⟩
    simp only [e1, bd2_s, i10, h'.q0, h'.f12, R_size h'.w12, Option.bind_some]
    show some (nI ((sr (g0 σ) 12 ++ [a]).length), M') = _
    rw [List.length_append, List.length_singleton]
  · rw [if_neg hl, R_full h.w12 a (by omega)]
    simp only [bd2_s, i00]
    exact DoC.er h 4 rfl (by decide)
theorem T_tell {M : Mm} {σ : Sg} (h : RelT M σ) (hI : Ig σ) (a : Int32) : DoT M (fX11_tell M 137 a) (sp_tell σ a) := by
  have hc : (sr (g0 σ) 12).length ≤ 20 := hI.1.L 12 (by decide)
  obtain ⟨F, A, h1, r⟩ := id h
  have cn := (T_cnt h1 r).2.2.2.2.2.2.2.1
  unfold fX11_tell sp_tell
  simp only [T_c h1, Option.bind_some, T_q0 h1, cn]
  by_cases hl : (sr (g0 σ) 12).length < 20
  · obtain ⟨M1, M2, e1, e2, e3, e4, e5, e6, e7, e8⟩ := T_addrow h1 r hI.1 (i := 12) (by decide) hl a
    have ex : (462 : Int32) + nI (sr (g0 σ) 12).length = nI (tix 12 (sr (g0 σ) 12).length) := by rw [show tix 12 (sr (g0 σ) 12).length = 462 + (sr (g0 σ) 12).length from by simp [tix, tb, ts]]; exact nI_add 462 _
    have e3' : aI M1 0 138 7 = some (nI (sr (g0 σ) 12).length) := e3
    have e4' : sI M1 0 138 7 (nI (sr (g0 σ) 12).length + 1) = some M2 := e4
    have e6' : aI M2 0 138 7 = some (nI ((sr (g0 σ) 12).length + 1)) := e6
    rw [if_pos hl, if_neg (fun q => by have := (nI_eq (a := (sr (g0 σ) 12).length) (b := 20) (by omega) (by decide)).mp q; omega)]
    refine ⟨M2, ?_, e7, e8⟩
    simp only [ex, e1, e2, e3', e4', e5, e6', Option.bind_some]
  · rw [if_neg hl, if_pos (by rw [show (sr (g0 σ) 12).length = 20 by omega]; rfl)]
    exact DoT.er h hI.2.2.1 4 rfl (by decide)
/-! told, count, trace, seed -/
def sp_told (σ : Sg) (k : Int32) : An := if wi k 1 5 then ((ge σ).getD k.toNatClampNeg 0, σ) else er σ 1
theorem wi_ix1 {x y : Int32} {n : Nat} (hn : n < 2 ^ 31) (hy : y = nI n) (h : wi x 1 y) : ∃ j, 1 ≤ j ∧ j ≤ n ∧ x = nI j := by
  subst hy
  have h1 := Int32.le_iff_toInt_le.mp (Int32.not_lt.mp h.1)
  have h0 : ¬ x < 0 := fun q => by
    have := Int32.lt_iff_toInt_lt.mp q
    simp at this h1
    omega
  obtain ⟨j, g1, g2⟩ := nI_of2 (nI_toInt hn) h0 (Int32.not_lt.mp h.2)
  refine ⟨j, ?_, g1, g2⟩
  rw [g2, nI_toInt (by omega)] at h1
  simp at h1
  omega
theorem DoC.same {M : Mm} {σ : Sg} (h : RelC M σ) {x : Int32} : DoC M (some (x, M)) (x, σ) := ⟨M, rfl, h, FrC.rf⟩
theorem DoT.same {M : Mm} {σ : Sg} (h : RelT M σ) {x : Int32} : DoT M (some (x, M)) (x, σ) := ⟨M, rfl, h, Of.rf⟩
theorem C_told {M : Mm} {σ : Sg} (h : RelC M σ) (hI : Ig σ) (a : Int32) : DoC M (fX10_told M 0 a) (sp_told σ a) := by
  unfold fX10_told sp_told
  simp only [h.c, Option.bind_some]
  by_cases h1 : wi a 1 5
  · rw [C_in h1, if_pos h1]
    obtain ⟨j, -, hj, rfl⟩ := wi_ix1 (n := 5) (by decide) rfl h1
    simp only [Option.bind_some, i10, h.q3, R_at h.2.2.2.1.2, lg_nI (show j < 2 ^ 31 by omega)]
    rw [nI_clamp (by omega)]
    exact DoC.same h
  · rw [C_out h1, if_neg h1]
    simp only [Option.bind_some, i00]
    exact DoC.er h 1 rfl (by decide)
theorem T_told {M : Mm} {σ : Sg} (h : RelT M σ) (hI : Ig σ) (a : Int32) : DoT M (fX11_told M 137 a) (sp_told σ a) := by
  obtain ⟨F, A, h1, r⟩ := id h
  unfold fX11_told sp_told
  simp only [T_c h1, Option.bind_some]
  by_cases g1 : wi a 1 5
  · rw [T_yes M (a := 1) (b := 5) (by decide) (by decide) g1, if_pos g1]
    obtain ⟨j, -, hj, rfl⟩ := wi_ix1 (n := 5) (by decide) rfl g1
    simp only [Option.bind_some, i10, T_ref h1 (k := 3) (x := 140) rfl]
    rw [show aI M 0 140 (nI j) = some (A 2 j) from T_get h1 2 (by decide) (show j < 6 by omega), r.2.2.2.1 j (by omega), nI_clamp (by omega)]
    exact DoT.same h
  · rw [T_no M (a := 1) (b := 5) (by decide) (by decide) g1, if_neg g1]
    simp only [Option.bind_some, i00]
    exact DoT.er h hI.2.2.1 1 rfl (by decide)
def sp_seed (σ : Sg) (a : Int32) : An := (sz (g0 σ), ((g0 σ).1, (g0 σ).2.1, (g0 σ).2.2.1, a), σ.2)
theorem NowAt.zz {M : Mm} {S : St} (h : NowAt M 1 S) (a : Int32) : ∃ M', pF M 6 1 16 (.int a) = some M' ∧ NowAt M' 1 (S.1, S.2.1, S.2.2.1, a) ∧ Of (fun k => k = 1) M M' := by
  have o : Of (fun k => k = 1) M (M.set 1 (.inr (6, (soF 1 (sk S).length (sz S)).set 16 (.int a)))) := Of.set rfl
  have d : Dy M (M.set 1 (.inr (6, (soF 1 (sk S).length (sz S)).set 16 (.int a)))) := o.dy (fun k q => by omega)
  refine ⟨_, pF_ok h.1 (Nat.le_of_ble_eq_true rfl), ?_, o⟩
  obtain ⟨h1, h2, ⟨f, h3, h4⟩, f2, h5, h6, h7⟩ := h
  have := lt_of_at h1
  refine ⟨by simp [this]; rfl, fun i hi => (h2 i hi).of o ?_ ?_, ⟨f, by rw [o.2 _ (by omega)]; exact h3, fun u hu => (h4 u hu).mv d⟩, f2, by rw [o.2 _ (by omega)]; exact h5, h6, fun c hc => ?_⟩
  · have := ro_lt i hi; omega
  · have := ro_lt i hi; omega
  · obtain ⟨q, k1, k2⟩ := h7 c hc
    exact ⟨q, k1, d.2 _ _ k2⟩
theorem C_seed {M : Mm} {σ : Sg} (h : RelC M σ) (a : Int32) : DoC M (fX10_seed M 0 a) (sp_seed σ a) := by
  obtain ⟨M', e1, e2, e3⟩ := h.2.1.zz a
  refine ⟨M', ?_, h.now (e3.mono (fun k q => by omega)) e2, e3.frC (fun q z => by omega)⟩
  simp only [fX10_seed, sp_seed, h.c, h.q0, h.2.1.z, e1, Option.bind_some]
theorem TwS.z8 {f : Nat → Int32} {S : St} (h : TwS f S) (hL : ∀ i, i < 13 → (sr S i).length ≤ rc i) (a : Int32) : TwS (upd f 8 a) (S.1, S.2.1, S.2.2.1, a) := by
  obtain ⟨⟨c0, c1, c2, c3, c4, c5, c6, c7, c8⟩, h1, h2, h3⟩ := h
  refine ⟨⟨?_, ?_, ?_, ?_, ?_, ?_, ?_, ?_, pk_us⟩, fun i hi j hj => ?_, fun c hc w hw => ?_, fun u hu => (h3 u hu).up (by omega)⟩
  any_goals (rw [pk_un (by omega)]; assumption)
  · rw [pk_un (by have := tix_in i hi j (Nat.lt_of_lt_of_le hj (hL i hi)); omega)]; exact h1 i hi j hj
  · rw [pk_un (by omega)]; exact h2 c hc w hw
theorem T_seed {M : Mm} {σ : Sg} (h : RelT M σ) (hI : Ig σ) (a : Int32) : DoT M (fX11_seed M 137 a) (sp_seed σ a) := by
  obtain ⟨F, A, h1, r⟩ := id h
  obtain ⟨M1, e1, e2, e3⟩ := T_mp h1 (j := 8) (by decide) a
  have e1' : sI M 0 138 8 a = some M1 := e1
  refine ⟨M1, ?_, ⟨F, _, e2, r.m0 (r.1.z8 hI.1.L a) (fun k hk => u2_n hk)⟩, e3⟩
  simp only [fX11_seed, sp_seed, T_c h1, T_q0 h1, (T_cnt h1 r).2.2.2.2.2.2.2.2, e1', Option.bind_some]
