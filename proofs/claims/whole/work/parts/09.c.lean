theorem T_m {M : Mm} {F : Nat → Int32} {A : Nat → Nat → Int32} (h : TwAt M F A) {j : Nat} (hj : j < 950) : aI M 0 138 (nI j) = some (A 0 j) := T_get h 0 (by decide) hj
theorem T_mp {M : Mm} {F : Nat → Int32} {A : Nat → Nat → Int32} (h : TwAt M F A) {j : Nat} (hj : j < 950) (x : Int32) : ∃ M', sI M 0 138 (nI j) x = some M' ∧ TwAt M' F (u2 A 0 j x) ∧ FrT M M' := T_put h 0 (by decide) hj x
theorem T_q0 {M : Mm} {F : Nat → Int32} {A : Nat → Nat → Int32} (h : TwAt M F A) : gQ M 11 137 0 = some 138 := T_ref h rfl
def adS (σ : Sg) (i : Nat) (v : Int32) : Sg := (srow (g0 σ) i (sr (g0 σ) i ++ [v]), σ.2)
def stS (σ : Sg) (i j : Nat) (v : Int32) : Sg := (srow (g0 σ) i ((sr (g0 σ) i).set j v), σ.2)
theorem Iv.L {S : St} (h : Iv S) : ∀ i, i < 13 → (sr S i).length ≤ rc i := h.2.2.2.2.1
theorem Iv.K {S : St} (h : Iv S) : (sk S).length ≤ 12 := h.2.2.2.2.2.2.1
theorem Iv.len {S : St} (h : Iv S) : (sr S 0).length = 3 ∧ (sr S 8).length = 6 ∧ (sr S 9).length = 8 := h.2.2.1
theorem TwR.m0 {F : Nat → Int32} {A A' : Nat → Nat → Int32} {σ : Sg} {S : St} (h : TwR F A σ) (hS : TwS (A' 0) S) (hA : ∀ k, k ≠ 0 → A' k = A k) : TwR F A' (S, σ.2) := by
  obtain ⟨-, q1, q2, q3, q4, q5, q6⟩ := h
  refine ⟨hS, by rw [hA 1 (by decide)]; exact q1, q2, by rw [hA 2 (by decide)]; exact q3, ?_, q5, by rw [hA 14 (by decide)]; exact q6⟩
  rw [hA 5 (by decide), hA 6 (by decide), hA 7 (by decide)]
  exact q4
theorem u2_0 {A : Nat → Nat → Int32} {j : Nat} {x : Int32} : u2 A 0 j x 0 = upd (A 0) j x := rfl
theorem u2_n {A : Nat → Nat → Int32} {i j k : Nat} {x : Int32} (h : k ≠ i) : u2 A i j x k = A k := if_neg h
/-- a number of a row becomes another -/
theorem T_setrow {M : Mm} {F : Nat → Int32} {A : Nat → Nat → Int32} {σ : Sg} (h : TwAt M F A) (r : TwR F A σ) (hI : Iv (g0 σ)) {i j : Nat} (hi : i < 13) (hj : j < (sr (g0 σ) i).length) (v : Int32) : aI M 0 138 (nI (tix i j)) = some ((sr (g0 σ) i).getD j 0) ∧ ∃ M1, sI M 0 138 (nI (tix i j)) v = some M1 ∧ RelT M1 (stS σ i j v) ∧ FrT M M1 := by
  have b := tix_in i hi j (Nat.lt_of_lt_of_le hj (hI.L i hi))
  obtain ⟨M1, e1, e2, e3⟩ := T_mp h (j := tix i j) (by omega) v
  refine ⟨by rw [T_m h (by omega), r.1.2.1 i hi j hj], M1, e1, ⟨F, _, e2, r.m0 ?_ (fun k hk => u2_n hk)⟩, e3⟩
  exact r.1.set hI.L hI.K hi hj
/-- one more number of a row with a count of its own -/
theorem T_addrow {M : Mm} {F : Nat → Int32} {A : Nat → Nat → Int32} {σ : Sg} (h : TwAt M F A) (r : TwR F A σ) (hI : Iv (g0 σ)) {i : Nat} (hi : i = 1 ∨ i = 6 ∨ i = 7 ∨ i = 5 ∨ i = 12) (hj : (sr (g0 σ) i).length < rc i) (v : Int32) :
    ∃ M1 M2, sI M 0 138 (nI (tix i (sr (g0 σ) i).length)) v = some M1 ∧ gQ M1 11 137 0 = some 138 ∧ aI M1 0 138 (nI (tn i)) = some (nI (sr (g0 σ) i).length) ∧ sI M1 0 138 (nI (tn i)) (nI (sr (g0 σ) i).length + 1) = some M2 ∧ gQ M2 11 137 0 = some 138 ∧ aI M2 0 138 (nI (tn i)) = some (nI ((sr (g0 σ) i).length + 1)) ∧ RelT M2 (adS σ i v) ∧ FrT M M2 := by
  have hi13 : i < 13 := by omega
  have b := tix_in i hi13 _ hj
  have cn : A 0 (tn i) = nI (sr (g0 σ) i).length := by
    obtain ⟨⟨c0, c1, c2, c3, c4, c5, c6, c7, c8⟩, -⟩ := r.1
    rcases hi with rfl | rfl | rfl | rfl | rfl
    · exact c0
    · exact c3
    · exact c4
    · exact c6
    · exact c7
  have htn : tn i < 9 := by rcases hi with rfl | rfl | rfl | rfl | rfl <;> decide
  obtain ⟨M1, e1, e2, e3⟩ := T_mp h (j := tix i (sr (g0 σ) i).length) (by omega) v
  obtain ⟨M2, k1, k2, k3⟩ := T_mp e2 (j := tn i) (by omega) (nI (sr (g0 σ) i).length + 1)
  refine ⟨M1, M2, e1, T_q0 e2, ?_, k1, T_q0 k2, ?_, ⟨F, _, k2, r.m0 ?_ (fun k hk => by rw [u2_n hk, u2_n hk])⟩, e3.trans k3⟩
  · rw [T_m e2 (by omega), u2_0, pk_un (by omega), cn]
  · rw [T_m k2 (by omega), u2_0, pk_us, nI_1]
  · rw [u2_0, u2_0, nI_1]
    exact r.1.add hI.L hI.K hi hj
theorem T_cnt {M : Mm} {F : Nat → Int32} {A : Nat → Nat → Int32} {σ : Sg} (h : TwAt M F A) (r : TwR F A σ) : aI M 0 138 0 = some (nI (sr (g0 σ) 1).length) ∧ aI M 0 138 1 = some (nI (sr (g0 σ) 2).length) ∧ aI M 0 138 2 = some (nI (sk (g0 σ)).length) ∧ aI M 0 138 3 = some (nI (sr (g0 σ) 6).length) ∧ aI M 0 138 4 = some (nI (sr (g0 σ) 7).length) ∧ aI M 0 138 5 = some (nI (sr (g0 σ) 10).length) ∧ aI M 0 138 6 = some (nI (sr (g0 σ) 5).length) ∧ aI M 0 138 7 = some (nI (sr (g0 σ) 12).length) ∧ aI M 0 138 8 = some (sz (g0 σ)) := by
  obtain ⟨⟨c0, c1, c2, c3, c4, c5, c6, c7, c8⟩, -⟩ := r.1
  rw [← c0, ← c1, ← c2, ← c3, ← c4, ← c5, ← c6, ← c7, ← c8]
  exact ⟨T_m h (j := 0) (by decide), T_m h (j := 1) (by decide), T_m h (j := 2) (by decide), T_m h (j := 3) (by decide), T_m h (j := 4) (by decide), T_m h (j := 5) (by decide), T_m h (j := 6) (by decide), T_m h (j := 7) (by decide), T_m h (j := 8) (by decide)⟩
/-! clock, weight, year -/
def sp_clock (σ : Sg) (a b : Int32) : An := if wi a 0 2 ∧ wi b (-999) 999 then ((sr (g0 σ) 0).getD a.toNatClampNeg 0, stS σ 0 a.toNatClampNeg b) else er σ 1
def sp_weight (σ : Sg) (a b : Int32) : An := if wi a 0 5 ∧ wi b 0 99 then ((sr (g0 σ) 8).getD a.toNatClampNeg 0, stS σ 8 a.toNatClampNeg b) else er σ 1
def sp_year (σ : Sg) (a b : Int32) : An := if wi a 0 7 ∧ wi b 0 99 then ((sr (g0 σ) 9).getD a.toNatClampNeg 0, stS σ 9 a.toNatClampNeg b) else er σ 1
theorem C_clock {M : Mm} {σ : Sg} (h : RelC M σ) (hI : Ig σ) (a b : Int32) : DoC M (fX10_clock M 0 a b) (sp_clock σ a b) := by
  unfold fX10_clock sp_clock
  simp only [h.c, Option.bind_some, jX10_clock_22]
  by_cases h1 : wi a 0 2
  · rw [C_in h1]
    simp only [Option.bind_some, i10]
    by_cases h2 : wi b (-999) 999
    · rw [C_in h2, if_pos ⟨h1, h2⟩]
      obtain ⟨j, hj, rfl⟩ := wi_ix (n := 2) (by decide) rfl h1
      have hl := hI.1.len
      obtain ⟨M', e1, e2, e3⟩ := R_exchange h.w0 (j := j) (by omega) b
      refine ⟨M', ?_, ?_, e3.frC (fun q z => by omega)⟩
      · simp only [Option.bind_some, i10, h.q0, h.f0, e1, bd2_s]
        rw [nI_clamp (by omega)]
      · rw [nI_clamp (by omega)]
        exact h.u0 e3 e2
    · rw [C_out h2, if_neg (fun q => h2 q.2)]
      simp only [Option.bind_some, i00]
      exact DoC.er h 1 rfl (by decide)
  · rw [C_out h1, if_neg (fun q => h1 q.1)]
    simp only [Option.bind_some, i00]
    exact DoC.er h 1 rfl (by decide)
theorem T_clock {M : Mm} {σ : Sg} (h : RelT M σ) (hI : Ig σ) (a b : Int32) : DoT M (fX11_clock M 137 a b) (sp_clock σ a b) := by
  obtain ⟨F, A, h1, r⟩ := id h
  unfold fX11_clock sp_clock
  simp only [T_c h1, Option.bind_some, jX11_clock_26]
  by_cases g1 : wi a 0 2
  · rw [T_yes M (a := 0) (b := 2) (by decide) (by decide) g1]
    simp only [Option.bind_some, i10]
    by_cases g2 : wi b (-999) 999
    · rw [T_yes M (a := (-999)) (b := 999) (by decide) (by decide) g2, if_pos ⟨g1, g2⟩]
      obtain ⟨j, hj, rfl⟩ := wi_ix (n := 2) (by decide) rfl g1
      have hl := hI.1.len
      obtain ⟨e0, M1, e1, e2, e3⟩ := T_setrow h1 r hI.1 (i := 0) (by decide) (j := j) (by omega) b
      have ex : (9 : Int32) + nI j = nI (tix 0 j) := by rw [show tix 0 j = 9 + j from by simp [tix, tb, ts]]; exact nI_add 9 j
      refine ⟨M1, ?_, ?_, e3⟩
      · simp only [Option.bind_some, i10, T_q0 h1, ex, e0, e1]
        rw [nI_clamp (by omega)]
      · rw [nI_clamp (by omega)]
        exact e2
    · rw [T_no M (a := (-999)) (b := 999) (by decide) (by decide) g2, if_neg (fun q => g2 q.2)]
      simp only [Option.bind_some, i00]
      exact DoT.er h hI.2.2.1 1 rfl (by decide)
  · rw [T_no M (a := 0) (b := 2) (by decide) (by decide) g1, if_neg (fun q => g1 q.1)]
    simp only [Option.bind_some, i00]
    exact DoT.er h hI.2.2.1 1 rfl (by decide)
theorem C_weight {M : Mm} {σ : Sg} (h : RelC M σ) (hI : Ig σ) (a b : Int32) : DoC M (fX10_weight M 0 a b) (sp_weight σ a b) := by
  unfold fX10_weight sp_weight
  simp only [h.c, Option.bind_some, jX10_weight_17, fX10_isLaw]
  by_cases h1 : wi a 0 5
  · rw [C_in h1]
    simp only [Option.bind_some, i10, zr1]
    by_cases h2 : wi b 0 99
    · rw [C_in h2, if_pos ⟨h1, h2⟩]
      obtain ⟨j, hj, rfl⟩ := wi_ix (n := 5) (by decide) rfl h1
      have hl := hI.1.len
      obtain ⟨M', e1, e2, e3⟩ := R_exchange h.w8 (j := j) (by omega) b
      refine ⟨M', ?_, ?_, e3.frC (fun q z => by omega)⟩
      · simp only [Option.bind_some, i10, h.q0, h.f8, e1, bd2_s]
        rw [nI_clamp (by omega)]
      · rw [nI_clamp (by omega)]
        exact h.u8 e3 e2
    · rw [C_out h2, if_neg (fun q => h2 q.2)]
      simp only [Option.bind_some, i00]
      exact DoC.er h 1 rfl (by decide)
  · rw [C_out h1, if_neg (fun q => h1 q.1)]
    simp only [Option.bind_some, i00, zr0]
    exact DoC.er h 1 rfl (by decide)
theorem T_weight {M : Mm} {σ : Sg} (h : RelT M σ) (hI : Ig σ) (a b : Int32) : DoT M (fX11_weight M 137 a b) (sp_weight σ a b) := by
  obtain ⟨F, A, h1, r⟩ := id h
  unfold fX11_weight sp_weight
  simp only [T_c h1, Option.bind_some, jX11_weight_19, fX11_isLaw]
  by_cases g1 : wi a 0 5
  · rw [T_yes M (a := 0) (b := 5) (by decide) (by decide) g1]
    simp only [Option.bind_some, i10, zr1]
    by_cases g2 : wi b 0 99
    · rw [T_yes M (a := 0) (b := 99) (by decide) (by decide) g2, if_pos ⟨g1, g2⟩]
      obtain ⟨j, hj, rfl⟩ := wi_ix (n := 5) (by decide) rfl g1
      have hl := hI.1.len
      obtain ⟨e0, M1, e1, e2, e3⟩ := T_setrow h1 r hI.1 (i := 8) (by decide) (j := j) (by omega) b
      have ex : (398 : Int32) + nI j = nI (tix 8 j) := by rw [show tix 8 j = 398 + j from by simp [tix, tb, ts]]; exact nI_add 398 j
      refine ⟨M1, ?_, ?_, e3⟩
      · simp only [Option.bind_some, i10, T_q0 h1, ex, e0, e1]
        rw [nI_clamp (by omega)]
      · rw [nI_clamp (by omega)]
        exact e2
    · rw [T_no M (a := 0) (b := 99) (by decide) (by decide) g2, if_neg (fun q => g2 q.2)]
      simp only [Option.bind_some, i00]
      exact DoT.er h hI.2.2.1 1 rfl (by decide)
  · rw [T_no M (a := 0) (b := 5) (by decide) (by decide) g1, if_neg (fun q => g1 q.1)]
    simp only [Option.bind_some, i00, zr0]
    exact DoT.er h hI.2.2.1 1 rfl (by decide)
theorem C_year {M : Mm} {σ : Sg} (h : RelC M σ) (hI : Ig σ) (a b : Int32) : DoC M (fX10_year M 0 a b) (sp_year σ a b) := by
  unfold fX10_year sp_year
  simp only [h.c, Option.bind_some, jX10_year_17, fX10_isYear]
  by_cases h1 : wi a 0 7
  · rw [C_in h1]
    simp only [Option.bind_some, i10, zr1]
    by_cases h2 : wi b 0 99
    · rw [C_in h2, if_pos ⟨h1, h2⟩]
      obtain ⟨j, hj, rfl⟩ := wi_ix (n := 7) (by decide) rfl h1
      have hl := hI.1.len
      obtain ⟨M', e1, e2, e3⟩ := R_exchange h.w9 (j := j) (by omega) b
      refine ⟨M', ?_, ?_, e3.frC (fun q z => by omega)⟩
      · simp only [Option.bind_some, i10, h.q0, h.f9, e1, bd2_s]
        rw [nI_clamp (by omega)]
      · rw [nI_clamp (by omega)]
        exact h.u9 e3 e2
    · rw [C_out h2, if_neg (fun q => h2 q.2)]
      simp only [Option.bind_some, i00]
      exact DoC.er h 1 rfl (by decide)
  · rw [C_out h1, if_neg (fun q => h1 q.1)]
    simp only [Option.bind_some, i00, zr0]
    exact DoC.er h 1 rfl (by decide)
theorem T_year {M : Mm} {σ : Sg} (h : RelT M σ) (hI : Ig σ) (a b : Int32) : DoT M (fX11_year M 137 a b) (sp_year σ a b) := by
  obtain ⟨F, A, h1, r⟩ := id h
  unfold fX11_year sp_year
  simp only [T_c h1, Option.bind_some, jX11_year_19, fX11_isYear]
  by_cases g1 : wi a 0 7
  · rw [T_yes M (a := 0) (b := 7) (by decide) (by decide) g1]
    simp only [Option.bind_some, i10, zr1]
    by_cases g2 : wi b 0 99
    · rw [T_yes M (a := 0) (b := 99) (by decide) (by decide) g2, if_pos ⟨g1, g2⟩]
      obtain ⟨j, hj, rfl⟩ := wi_ix (n := 7) (by decide) rfl g1
      have hl := hI.1.len
      obtain ⟨e0, M1, e1, e2, e3⟩ := T_setrow h1 r hI.1 (i := 9) (by decide) (j := j) (by omega) b
      have ex : (404 : Int32) + nI j = nI (tix 9 j) := by rw [show tix 9 j = 404 + j from by simp [tix, tb, ts]]; exact nI_add 404 j
      refine ⟨M1, ?_, ?_, e3⟩
      · simp only [Option.bind_some, i10, T_q0 h1, ex, e0, e1]
        rw [nI_clamp (by omega)]
      · rw [nI_clamp (by omega)]
        exact e2
    · rw [T_no M (a := 0) (b := 99) (by decide) (by decide) g2, if_neg (fun q => g2 q.2)]
      simp only [Option.bind_some, i00]
      exact DoT.er h hI.2.2.1 1 rfl (by decide)
  · rw [T_no M (a := 0) (b := 7) (by decide) (by decide) g1, if_neg (fun q => g1 q.1)]
    simp only [Option.bind_some, i00, zr0]
    exact DoT.er h hI.2.2.1 1 rfl (by decide)
