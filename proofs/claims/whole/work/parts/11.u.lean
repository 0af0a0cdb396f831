/-! chosen, paid -/
def sc (S : St) (c : List Int32) (m i s : Nat) : Int32 := nI m * mtS S c ((sr S 6).getD i 0) s - tgA S c ((sr S 6).getD i 0) m
def gm (S : St) (c : List Int32) (m : Nat) : Nat → Nat → Int32
  | 0, s => sc S c m 0 s
  | i + 1, s => mx (gm S c m i s) (sc S c m (i + 1) s)
def bsK (S : St) (c : List Int32) (m k : Nat) : Nat → Nat
  | 0 => 0
  | i + 1 => if sc S c m (bsK S c m k i) k < sc S c m (i + 1) k then i + 1 else bsK S c m k i
theorem bsK_gm (S : St) (c : List Int32) (m k : Nat) : ∀ i, sc S c m (bsK S c m k i) k = gm S c m i k
  | 0 => rfl
  | i + 1 => by
    have h := bsK_gm S c m k i
    show sc S c m (if sc S c m (bsK S c m k i) k < sc S c m (i + 1) k then i + 1 else bsK S c m k i) k = mx (gm S c m i k) (sc S c m (i + 1) k)
    unfold mx
    rw [h]
    by_cases z : gm S c m i k < sc S c m (i + 1) k
    · rw [if_pos z, if_pos z]
    · rw [if_neg z, if_neg z]; exact h
theorem bsK_le (S : St) (c : List Int32) (m k : Nat) : ∀ i, bsK S c m k i ≤ i
  | 0 => Nat.le_refl 0
  | i + 1 => by
    have h := bsK_le S c m k i
    show (if sc S c m (bsK S c m k i) k < sc S c m (i + 1) k then i + 1 else bsK S c m k i) ≤ i + 1
    by_cases z : sc S c m (bsK S c m k i) k < sc S c m (i + 1) k
    · rw [if_pos z]; exact Nat.le_refl _
    · rw [if_neg z]; omega
theorem C_score {M : Mm} {S : St} {c : List Int32} {m i s : Nat} (h : SlT M S c ((sr S 6).getD i 0) m m) (hs : s ≤ m) (hm : m ≤ 40) : fX5_scoreAt M 124 (nI s) = some (sc S c m i s) := by
  have i3 : gI M 5 124 3 = some (nI m) := gI_ok h.1 rfl
  have i2 : gI M 5 124 2 = some (tgA S c ((sr S 6).getD i 0) m) := gI_ok h.1 rfl
  have q0 : gQ M 5 124 0 = some 125 := gQ_ok h.1 rfl
  have e : ((List.range (m + 1)).map (mtS S c ((sr S 6).getD i 0))).getD s 0 = mtS S c ((sr S 6).getD i 0) s := by
    rw [List.getD_eq_getElem?_getD, List.getElem?_map, List.getElem?_range (by omega)]; rfl
  simp only [fX5_scoreAt, gC_ok h.1, i3, i2, q0, R_at h.2, lg_nI (show s < 2 ^ 31 by omega), e, Option.bind_some, sc]
theorem C_keepAllL {N : Nat} {S : St} {c : List Int32} {m : Nat} (hm : m ≤ 40) : ∀ (k s f : Nat) (M : Mm), s + k = m + 1 → k < f → SlT M S c ((sr S 6).getD 0 0) m m → Rw M 127 41 ((List.range s).map (gm S c m 0)) → ∃ M', LX5_keepAll_2 N f M 124 (nI s) = some M' ∧ Rw M' 127 41 ((List.range (m + 1)).map (gm S c m 0)) ∧ Of (fun k => k = 127 ∨ k = 127 + 1) M M' := by
  intro k
  induction k with
  | zero =>
    intro s f M hk hf h g
    obtain ⟨f, rfl⟩ : ∃ g, f = g + 1 := ⟨f - 1, by omega⟩
    have e : s = m + 1 := by omega
    subst e
    have i3 : gI M 5 124 3 = some (nI m) := gI_ok h.1 rfl
    refine ⟨M, ?_, g, Of.rf⟩
    show BX5_keepAll_2 N (LX5_keepAll_2 N f) M 124 _ = _
    unfold BX5_keepAll_2
    simp only [i3, Option.bind_some]
    rw [if_pos (nI_lt (by omega) (by omega))]
  | succ k ih =>
    intro s f M hk hf h g
    obtain ⟨f, rfl⟩ : ∃ g, f = g + 1 := ⟨f - 1, by omega⟩
    have i3 : gI M 5 124 3 = some (nI m) := gI_ok h.1 rfl
    have q1 : gQ M 5 124 1 = some 127 := gQ_ok h.1 rfl
    obtain ⟨M1, a1, a2, a3⟩ := R_add g (sc S c m 0 s) (by simp; omega)
    rw [show sc S c m 0 s = gm S c m 0 s from rfl, ← rng_s] at a2
    obtain ⟨M2, b1, b2, b3⟩ := ih (s + 1) f M1 (by omega) (by omega) ⟨by rw [a3.2 _ (by omega)]; exact h.1, h.2.of a3 (by omega) (by omega)⟩ a2
    refine ⟨M2, ?_, b2, a3.trans b3⟩
    show BX5_keepAll_2 N (LX5_keepAll_2 N f) M 124 _ = _
    unfold BX5_keepAll_2
    simp only [i3, q1, C_score h (show s ≤ m by omega) hm, Option.bind_some, nI_1]
    rw [if_neg (nI_nlt (by omega) (by omega)), a1, bd2_s]
    exact b1
theorem C_keepGrL {N : Nat} {S : St} {c : List Int32} {m i : Nat} {gr : Int32} (hm : m ≤ 40) (hg : gr = 0 ∨ gr = 1) : ∀ (k s f : Nat) (M : Mm), s + k = m + 1 → k < f → SlT M S c ((sr S 6).getD (i + 1) 0) m m → Rw M 127 41 ((List.range (m + 1)).map (fun x => if x < s then gm S c m (i + 1) x else gm S c m i x)) → ∃ M', LX5_keepGreater_24 N f M 124 gr (nI s) = some (gr, M') ∧ Rw M' 127 41 ((List.range (m + 1)).map (gm S c m (i + 1))) ∧ Of (fun k => k = 127 ∨ k = 127 + 1) M M' := by
  intro k
  induction k with
  | zero =>
    intro s f M hk hf h g
    obtain ⟨f, rfl⟩ : ∃ g, f = g + 1 := ⟨f - 1, by omega⟩
    have e : s = m + 1 := by omega
    subst e
    have i3 : gI M 5 124 3 = some (nI m) := gI_ok h.1 rfl
    refine ⟨M, ?_, ?_, Of.rf⟩
    · show BX5_keepGreater_24 N (LX5_keepGreater_24 N f) M 124 _ _ = _
      unfold BX5_keepGreater_24
      simp only [i3, Option.bind_some]
      rw [if_pos (nI_lt (by omega) (by omega))]
      rcases hg with rfl | rfl <;> rfl
    · rw [show (List.range (m + 1)).map (gm S c m (i + 1)) = (List.range (m + 1)).map (fun x => if x < m + 1 then gm S c m (i + 1) x else gm S c m i x) from List.map_congr_left (fun x hx => by rw [if_pos (List.mem_range.mp hx)])]
      exact g
  | succ k ih =>
    intro s f M hk hf h g
    obtain ⟨f, rfl⟩ : ∃ g, f = g + 1 := ⟨f - 1, by omega⟩
    have i3 : gI M 5 124 3 = some (nI m) := gI_ok h.1 rfl
    have q1 : gQ M 5 124 1 = some 127 := gQ_ok h.1 rfl
    have e : ((List.range (m + 1)).map (fun x => if x < s then gm S c m (i + 1) x else gm S c m i x)).getD s 0 = gm S c m i s := by
      rw [List.getD_eq_getElem?_getD, List.getElem?_map, List.getElem?_range (by omega)]
      show (if s < s then _ else _) = _
      rw [if_neg (by omega)]
    obtain ⟨M1, a1, a2, a3⟩ := R_exchange g (j := s) (by simp; omega) (mx (gm S c m i s) (sc S c m (i + 1) s))
    rw [map_set1 (g' := fun x => if x < s + 1 then gm S c m (i + 1) x else gm S c m i x) (by rw [if_pos (by omega)]; rfl) (fun k hk => by
      by_cases z : k < s
      · rw [if_pos z, if_pos (by omega)]
      · rw [if_neg z, if_neg (by omega)])] at a2
    obtain ⟨M2, b1, b2, b3⟩ := ih (s + 1) f M1 (by omega) (by omega) ⟨by rw [a3.2 _ (by omega)]; exact h.1, h.2.of a3 (by omega) (by omega)⟩ a2
    refine ⟨M2, ?_, b2, a3.trans b3⟩
    show BX5_keepGreater_24 N (LX5_keepGreater_24 N f) M 124 _ _ = _
    unfold BX5_keepGreater_24
    simp only [i3, q1, R_at g, lg_nI (show s < 2 ^ 31 by omega), e, C_score h (show s ≤ m by omega) hm, C_max, Option.bind_some, nI_1]
    rw [if_neg (nI_nlt (by omega) (by omega)), a1, bd2_s]
    exact b1
theorem C_keepGr {N : Nat} {M : Mm} {S : St} {c : List Int32} {m i : Nat} (hm : m ≤ 40) (hN : 2000 ≤ N) (h : SlT M S c ((sr S 6).getD (i + 1) 0) m m) (g : Rw M 127 41 ((List.range (m + 1)).map (gm S c m i))) : ∃ M', fX5_keepGreater N M 124 = some (if gm S c m i 0 < sc S c m (i + 1) 0 then 1 else 0, M') ∧ Rw M' 127 41 ((List.range (m + 1)).map (gm S c m (i + 1))) ∧ Of (fun k => k = 127 ∨ k = 127 + 1) M M' := by
  have q1 : gQ M 5 124 1 = some 127 := gQ_ok h.1 rfl
  have e : lg ((List.range (m + 1)).map (gm S c m i)) 0 = gm S c m i 0 := by
    rw [show (0 : Int32) = nI 0 from rfl, lg_nI (by decide), List.getD_eq_getElem?_getD, List.getElem?_map, List.getElem?_range (by omega)]; rfl
  have e0 : fX5_scoreAt M 124 0 = some (sc S c m (i + 1) 0) := C_score (s := 0) h (Nat.zero_le _) hm
  have g' : Rw M 127 41 ((List.range (m + 1)).map (fun x => if x < 0 then gm S c m (i + 1) x else gm S c m i x)) := g
  simp only [fX5_keepGreater, gC_ok h.1, e0, q1, R_at g, e, Option.bind_some]
  by_cases z : gm S c m i 0 < sc S c m (i + 1) 0
  · rw [if_neg (Int32.not_le.mpr z), if_pos z]
    exact C_keepGrL (N := N) hm (Or.inr rfl) (m + 1) 0 N M (by omega) (by omega) h g'
  · rw [if_pos (Int32.not_lt.mp z), if_neg z]
    exact C_keepGrL (N := N) hm (Or.inl rfl) (m + 1) 0 N M (by omega) (by omega) h g'
/-- the greatest scores' row behind i lines -/
def grR (S : St) (c : List Int32) (m : Nat) : Nat → List Int32
  | 0 => []
  | i + 1 => (List.range (m + 1)).map (gm S c m i)
theorem RelC.gr {M M' : Mm} {σ : Sg} {ys : List Int32} (h : RelC M σ) (o : Of (fun k => k = 127 ∨ k = 127 + 1) M M') (g : Rw M' 127 41 ys) : RelC M' σ := by
  obtain ⟨⟨u, v, s1⟩, s2, s3⟩ := h.slA
  exact h.sl (o.mono (fun k q => by omega)) (by rw [o.2 _ (by omega)]; exact s1) (s2.of o (by omega) (by omega)) ⟨_, g⟩
theorem C_linesL {N : Nat} {σ : Sg} {q m : Nat} {c : List Int32} (hI : Ig σ) (hN : 2000 ≤ N) (hm : m ≤ 40) (hw : wi (cL c 4) 0 50) (hD : wi (cL c 5) 1 999) : ∀ (k i f : Nat) (M : Mm), i + k = (sr (g0 σ) 6).length → k < f → (k = 0 → 0 < i) → RelC M σ → HrP M (g0 σ) (cL c 2 / 10) (rmI (cL c 2) 10) → CntAt M q c → (0 < i → ∃ u, M[124]? = some (.inr (5, [.ref 125, .ref 127, .int u, .int (nI m)]))) → Rw M 127 41 (grR (g0 σ) c m i) → ∃ M' u, LX5_takeLines_13 N f M 124 74 q 16 (nI m) (nI (bsK (g0 σ) c m 0 (i - 1))) (nI i) = some (nI (bsK (g0 σ) c m 0 ((sr (g0 σ) 6).length - 1)), M') ∧ RelC M' σ ∧ M'[124]? = some (.inr (5, [.ref 125, .ref 127, .int u, .int (nI m)])) ∧ Rw M' 127 41 (grR (g0 σ) c m (sr (g0 σ) 6).length) ∧ FrC M M' := by
  have hl : (sr (g0 σ) 6).length ≤ 6 := hI.1.L 6 (by decide)
  intro k
  induction k with
  | zero =>
    intro i f M hk hf h0 h hp hq hs g
    obtain ⟨f, rfl⟩ : ∃ g, f = g + 1 := ⟨f - 1, by omega⟩
    have e : i = (sr (g0 σ) 6).length := by omega
    subst e
    obtain ⟨u, s1⟩ := hs (h0 rfl)
    refine ⟨M, u, ?_, h, s1, g, FrC.rf⟩
    show BX5_takeLines_13 N (LX5_takeLines_13 N f) M 124 74 q 16 _ _ _ = _
    unfold BX5_takeLines_13
    simp only [R_size h.w6, Option.bind_some]
    rw [if_pos (nI_le (Nat.le_refl _) (by omega))]
  | succ k ih =>
    intro i f M hk hf h0 h hp hq hs g
    obtain ⟨f, rfl⟩ : ∃ g, f = g + 1 := ⟨f - 1, by omega⟩
    have hi : i < (sr (g0 σ) 6).length := by omega
    obtain ⟨M1, a1, a2, a3, a4, a5, a6, a7, a8⟩ := C_take (N := N) (q := q) (m := m) h hI hN hp hq hm hw hD ((sr (g0 σ) 6).getD i 0)
    have g1 : Rw M1 127 41 (grR (g0 σ) c m i) := g.mv a7
    have fr1 : FrC M M1 := a6.frC (fun k q => by omega)
    show ∃ M' u, BX5_takeLines_13 N (LX5_takeLines_13 N f) M 124 74 q 16 _ _ _ = _ ∧ _
    unfold BX5_takeLines_13
    simp only [R_size h.w6, R_at h.w6, lg_nI (show i < 2 ^ 31 by omega), a1, Option.bind_some, nI_1]
    rw [if_neg (nI_ge hi (by omega))]
    cases i with
    | zero =>
      rw [if_pos (show nI 0 = 0 from rfl)]
      obtain ⟨M2, b1, b2, b3⟩ := C_keepAllL (N := N) hm (m + 1) 0 N M1 (by omega) (by omega) a5 g1
      have e : fX5_keepAll N M1 124 = some M2 := by
        simp only [fX5_keepAll, gC_ok a5.1, Option.bind_some]
        exact b1
      rw [e]
      obtain ⟨M3, u, c1, c2, c3, c4, c5⟩ := ih 1 f M2 (by omega) (by omega) (fun _ => by omega) (a2.gr b3 b2) (a3.of b3 (fun k q => by omega)) ((b3.dy (fun k q => by omega)).2 _ _ a4) (fun _ => ⟨_, by rw [b3.2 _ (by omega)]; exact a5.1⟩) b2
      exact ⟨M3, u, c1, c2, c3, c4, fr1.trans ((b3.frC (fun k q => by omega)).trans c5)⟩
    | succ i =>
      rw [if_neg (nI_ne0 (by omega) (by omega))]
      obtain ⟨M2, b1, b2, b3⟩ := C_keepGr (N := N) hm hN a5 g1
      obtain ⟨M3, u, c1, c2, c3, c4, c5⟩ := ih (i + 1 + 1) f M2 (by omega) (by omega) (fun _ => by omega) (a2.gr b3 b2) (a3.of b3 (fun k q => by omega)) ((b3.dy (fun k q => by omega)).2 _ _ a4) (fun _ => ⟨_, by rw [b3.2 _ (by omega)]; exact a5.1⟩) b2
      refine ⟨M3, u, ?_, c2, c3, c4, fr1.trans ((b3.frC (fun k q => by omega)).trans c5)⟩
      rw [b1, bd2_s]
      simp only [gd]
      rw [show i + 1 + 1 - 1 = i + 1 from by omega] at c1
      rw [show bsK (g0 σ) c m 0 (i + 1) = if sc (g0 σ) c m (bsK (g0 σ) c m 0 i) 0 < sc (g0 σ) c m (i + 1) 0 then i + 1 else bsK (g0 σ) c m 0 i from rfl, bsK_gm] at c1
      rw [show i + 1 - 1 = i from by omega]
      by_cases z : gm (g0 σ) c m i 0 < sc (g0 σ) c m (i + 1) 0
      · rw [if_pos z]
        rw [if_pos z] at c1
        exact c1
      · rw [if_neg z]
        rw [if_neg z] at c1
        exact c1
theorem C_lines {N : Nat} {M : Mm} {σ : Sg} {q m : Nat} {c : List Int32} (h : RelC M σ) (hI : Ig σ) (hN : 2000 ≤ N) (hp : HrP M (g0 σ) (cL c 2 / 10) (rmI (cL c 2) 10)) (hq : CntAt M q c) (hm : m ≤ 40) (hw : wi (cL c 4) 0 50) (hD : wi (cL c 5) 1 999) (h0 : 0 < (sr (g0 σ) 6).length) : ∃ M' u, fX5_takeLines N M 124 74 q 16 (nI m) = some (nI (bsK (g0 σ) c m 0 ((sr (g0 σ) 6).length - 1)), M') ∧ RelC M' σ ∧ M'[124]? = some (.inr (5, [.ref 125, .ref 127, .int u, .int (nI m)])) ∧ Rw M' 127 41 ((List.range (m + 1)).map (gm (g0 σ) c m ((sr (g0 σ) 6).length - 1))) ∧ FrC M M' := by
  have hl : (sr (g0 σ) 6).length ≤ 6 := hI.1.L 6 (by decide)
  obtain ⟨⟨u, v, s1⟩, s2, ⟨x3, s3⟩⟩ := h.slA
  obtain ⟨M1, a1, a2, a3⟩ := R_clear s3
  obtain ⟨M2, u2, b1, b2, b3, b4, b5⟩ := C_linesL (N := N) (q := q) (m := m) (c := c) hI hN hm hw hD (sr (g0 σ) 6).length 0 N M1 (by omega) (by omega) (fun e => by omega) (h.gr a3 a2) (hp.of a3 (fun k q => by omega)) ((a3.dy (fun k q => by omega)).2 _ _ hq) (fun e => absurd e (by omega)) a2
  refine ⟨M2, u2, ?_, b2, b3, ?_, (a3.frC (fun k q => by omega)).trans b5⟩
  · have q1 : gQ M 5 124 1 = some 127 := gQ_ok s1 rfl
    simp only [fX5_takeLines, gC_ok s1, q1, a1, Option.bind_some]
    exact b1
  · obtain ⟨n, hn⟩ : ∃ n, (sr (g0 σ) 6).length = n + 1 := ⟨(sr (g0 σ) 6).length - 1, by omega⟩
    rw [hn] at b4 ⊢
    exact b4
theorem C_noLessL {N : Nat} {M : Mm} {g : Nat → Int32} {m : Nat} {u : Int32} (hm : m ≤ 40) (h1 : M[124]? = some (.inr (5, [.ref 125, .ref 127, .int u, .int (nI m)]))) (h2 : Rw M 127 41 ((List.range (m + 1)).map g)) : ∀ (k i f : Nat), i + k = m → k < f → LX5_noLess_4 N f M 124 (nI (slC g (g 0) i)) (nI (i + 1)) = some (nI (slC g (g 0) m)) := by
  have i3 : gI M 5 124 3 = some (nI m) := gI_ok h1 rfl
  have q1 : gQ M 5 124 1 = some 127 := gQ_ok h1 rfl
  have ge : ∀ s, s ≤ m → lg ((List.range (m + 1)).map g) (nI s) = g s := fun s hs => by
    rw [lg_nI (by omega), List.getD_eq_getElem?_getD, List.getElem?_map, List.getElem?_range (by omega)]; rfl
  have ge0 : lg ((List.range (m + 1)).map g) 0 = g 0 := ge 0 (Nat.zero_le _)
  intro k
  induction k with
  | zero =>
    intro i f hk hf
    obtain ⟨f, rfl⟩ : ∃ g, f = g + 1 := ⟨f - 1, by omega⟩
    have e : i = m := by omega
    subst e
    show BX5_noLess_4 N (LX5_noLess_4 N f) M 124 _ _ = _
    unfold BX5_noLess_4
    simp only [i3, Option.bind_some]
    rw [if_pos (nI_lt (by omega) (by omega))]
  | succ k ih =>
    intro i f hk hf
    obtain ⟨f, rfl⟩ : ∃ g, f = g + 1 := ⟨f - 1, by omega⟩
    have q := ih (i + 1) f (by omega) (by omega)
    show BX5_noLess_4 N (LX5_noLess_4 N f) M 124 _ _ = _
    unfold BX5_noLess_4
    simp only [i3, q1, R_at h2, ge (i + 1) (by omega), ge0, Option.bind_some, nI_1]
    rw [if_neg (nI_nlt (by omega) (by omega))]
    rw [show slC g (g 0) (i + 1) = if g (i + 1) < g 0 then slC g (g 0) i else slC g (g 0) i + 1 from rfl] at q
    by_cases z : g (i + 1) < g 0
    · rw [if_pos z]
      rw [if_pos z] at q
      exact q
    · rw [if_neg z]
      rw [if_neg z] at q
      exact q
def sp_chosen (σ : Sg) (a m : Int32) : An := if okA (g0 σ) a m then (if (sr (g0 σ) 6).length = 0 then er σ 2 else (nI (bsK (g0 σ) ((sk (g0 σ)).getD a.toNatClampNeg []) m.toNatClampNeg 0 ((sr (g0 σ) 6).length - 1)), σ)) else er σ 1
def pdV (S : St) (c : List Int32) (m : Nat) (p : Int32) : Int32 := nI (lowT (slC (gm S c m ((sr S 6).length - 1)) (gm S c m ((sr S 6).length - 1) 0) m) m p)
def sp_paid (σ : Sg) (a m p : Int32) : An := if okA (g0 σ) a m ∧ wi p 0 1 then (if (sr (g0 σ) 6).length = 0 then er σ 2 else (pdV (g0 σ) ((sk (g0 σ)).getD a.toNatClampNeg []) m.toNatClampNeg p, σ)) else er σ 1
theorem I_chosen {σ : Sg} (h : Ig σ) (a m : Int32) : Ig (sp_chosen σ a m).2 := by
  unfold sp_chosen
  by_cases g : okA (g0 σ) a m
  · rw [if_pos g]
    by_cases z : (sr (g0 σ) 6).length = 0
    · rw [if_pos z]; exact h.er 2
    · rw [if_neg z]; exact h
  · rw [if_neg g]; exact h.er 1
theorem I_paid {σ : Sg} (h : Ig σ) (a m p : Int32) : Ig (sp_paid σ a m p).2 := by
  unfold sp_paid
  by_cases g : okA (g0 σ) a m ∧ wi p 0 1
  · rw [if_pos g]
    by_cases z : (sr (g0 σ) 6).length = 0
    · rw [if_pos z]; exact h.er 2
    · rw [if_neg z]; exact h
  · rw [if_neg g]; exact h.er 1
theorem C_lnA {N : Nat} {M : Mm} {σ : Sg} (h : RelC M σ) (hI : Ig σ) (hN : 2000 ≤ N) {j m : Nat} (hj : j < (sk (g0 σ)).length) (hm : m ≤ 40) (h0 : 0 < (sr (g0 σ) 6).length) : ∃ q M1 M2 u, fX6_countingAt M 1 (nI j) = some (some q) ∧ gI M 0 q 2 = some (cL ((sk (g0 σ)).getD j []) 2) ∧ fX1_hear N M 74 1 (cL ((sk (g0 σ)).getD j []) 2) = some M1 ∧ RelC M1 σ ∧ fX5_takeLines N M1 124 74 q 16 (nI m) = some (nI (bsK (g0 σ) ((sk (g0 σ)).getD j []) m 0 ((sr (g0 σ) 6).length - 1)), M2) ∧ RelC M2 σ ∧ M2[124]? = some (.inr (5, [.ref 125, .ref 127, .int u, .int (nI m)])) ∧ Rw M2 127 41 ((List.range (m + 1)).map (gm (g0 σ) ((sk (g0 σ)).getD j []) m ((sr (g0 σ) 6).length - 1))) ∧ FrC M M2 := by
  obtain ⟨q, z1, z2⟩ := C_cnt h hI hj
  obtain ⟨-, -, k1, k2, k3, k4, k5⟩ := hI.1.2.2.2.2.2.2.2 j hj
  generalize (sk (g0 σ)).getD j [] = c at z2 k1 k2 k3 k4 k5 ⊢
  have hq := z2 M h Sm.rf
  obtain ⟨M1, a1, a2, a3, a4, a5⟩ := C_hearQ (N := N) h hI hN (okP_isP hI.1 k2)
  have hq1 := z2 M1 a2 a5
  obtain ⟨M2, u, b1, b2, b3, b4, b5⟩ := C_lines (N := N) (q := q) (m := m) a2 hI hN a3 hq1 hm k4 k5 h0
  exact ⟨q, M1, M2, u, z1, hq.i (show 2 < 6 by decide), a1, a2, b1, b2, b3, b4, a4.trans b5⟩
theorem C_chosen {N : Nat} {M : Mm} {σ : Sg} (h : RelC M σ) (hI : Ig σ) (hN : 2000 ≤ N) (a m : Int32) : DoC M (fX10_chosen N M 0 a m) (sp_chosen σ a m) := by
  have J := DoC.er h (a := 1) 1 rfl (by decide)
  have J2 := DoC.er h (a := 2) 2 rfl (by decide)
  have hk : (sk (g0 σ)).length ≤ 12 := hI.1.K
  have hl : (sr (g0 σ) 6).length ≤ 6 := hI.1.L 6 (by decide)
  unfold fX10_chosen sp_chosen jX10_chosen_20
  simp only [h.c, h.q0, h.q5, h.f6, R_size h.w6, Option.bind_some]
  by_cases g : isK (g0 σ) a
  · obtain ⟨j, hj, rfl⟩ := (wi_n (by omega)).mp g
    rw [nI_clamp (show j < 2 ^ 31 by omega)]
    by_cases g2 : wi m 1 40
    · rw [if_pos (show okA (g0 σ) (nI j) m from ⟨g, g2⟩)]
      obtain ⟨x, x0, x1, rfl⟩ := wi_ix1 (n := 40) (by decide) rfl g2
      rw [nI_clamp (show x < 2 ^ 31 by omega)]
      by_cases z : (sr (g0 σ) 6).length = 0
      · obtain ⟨q, z1, -⟩ := C_cnt h hI hj
        rw [z1, if_pos z]
        show DoC M ((fX10_isSlides M (nI x)).bind _) _
        simp only [C_isSlides, Option.bind_some, gd]
        rw [if_pos g2, if_pos (show nI (sr (g0 σ) 6).length = 0 by rw [z]; rfl)]
        exact J2
      · obtain ⟨q, M1, M2, u, z1, z2, a1, a2, b1, b2, b3, b4, b5⟩ := C_lnA (N := N) h hI hN hj x1 (by omega)
        rw [z1, if_neg z]
        show DoC M ((fX10_isSlides M (nI x)).bind _) _
        simp only [C_isSlides, z2, a1, a2.q7, a2.q5, a2.q0, a2.f6, Option.bind_some, gd]
        rw [if_pos g2, if_neg (nI_ne0 (by omega) (by omega)), b1, bd2_s]
        exact ⟨M2, rfl, b2, b5⟩
    · obtain ⟨q, z1, -⟩ := C_cnt h hI hj
      rw [z1, if_neg (show ¬ okA (g0 σ) (nI j) m from fun q => g2 q.2)]
      show DoC M ((fX10_isSlides M m).bind _) _
      simp only [C_isSlides, Option.bind_some, gd]
      rw [if_neg g2]; exact J
  · rw [if_neg (show ¬ okA (g0 σ) a m from fun q => g q.1), (C_countingAt h hI a).1 g]
    exact J
theorem C_paid {N : Nat} {M : Mm} {σ : Sg} (h : RelC M σ) (hI : Ig σ) (hN : 2000 ≤ N) (a m p : Int32) : DoC M (fX10_paid N M 0 a m p) (sp_paid σ a m p) := by
  have J := DoC.er h (a := 1) 1 rfl (by decide)
  have J2 := DoC.er h (a := 2) 2 rfl (by decide)
  have hk : (sk (g0 σ)).length ≤ 12 := hI.1.K
  have hl : (sr (g0 σ) 6).length ≤ 6 := hI.1.L 6 (by decide)
  unfold fX10_paid sp_paid jX10_paid_29
  simp only [h.c, h.q0, h.q5, h.f6, R_size h.w6, Option.bind_some]
  by_cases g : isK (g0 σ) a
  · obtain ⟨j, hj, rfl⟩ := (wi_n (by omega)).mp g
    rw [nI_clamp (show j < 2 ^ 31 by omega)]
    by_cases g2 : wi m 1 40
    · by_cases g3 : wi p 0 1
      · rw [if_pos (show okA (g0 σ) (nI j) m ∧ wi p 0 1 from ⟨⟨g, g2⟩, g3⟩)]
        obtain ⟨x, x0, x1, rfl⟩ := wi_ix1 (n := 40) (by decide) rfl g2
        rw [nI_clamp (show x < 2 ^ 31 by omega)]
        by_cases z : (sr (g0 σ) 6).length = 0
        · obtain ⟨q, z1, -⟩ := C_cnt h hI hj
          rw [z1, if_pos z]
          show DoC M ((fX10_isSlides M (nI x)).bind _) _
          simp only [C_isSlides, C_isPart, Option.bind_some, gd]
          rw [if_pos g2, if_pos g3, if_pos (show nI (sr (g0 σ) 6).length = 0 by rw [z]; rfl)]
          exact J2
        · obtain ⟨q, M1, M2, u, z1, z2, a1, a2, b1, b2, b3, b4, b5⟩ := C_lnA (N := N) h hI hN hj x1 (by omega)
          have nl : fX5_noLess N M2 124 = some (nI (slC (gm (g0 σ) ((sk (g0 σ)).getD j []) x ((sr (g0 σ) 6).length - 1)) (gm (g0 σ) ((sk (g0 σ)).getD j []) x ((sr (g0 σ) 6).length - 1) 0) x)) := by
            have w := C_noLessL (N := N) x1 b3 b4 x 0 N (by omega) (by omega)
            simp only [fX5_noLess, gC_ok b3, Option.bind_some]
            exact w
          have le := slC_le (gm (g0 σ) ((sk (g0 σ)).getD j []) x ((sr (g0 σ) 6).length - 1)) (gm (g0 σ) ((sk (g0 σ)).getD j []) x ((sr (g0 σ) 6).length - 1) 0) x
          rw [z1, if_neg z]
          show DoC M ((fX10_isSlides M (nI x)).bind _) _
          simp only [C_isSlides, C_isPart, z2, a1, a2.q7, a2.q5, a2.q0, a2.f6, Option.bind_some, gd]
          rw [if_pos g2, if_pos g3, if_neg (nI_ne0 (by omega) (by omega)), b1, bd2_s]
          simp only [b2.q7, nl, Option.bind_some]
          rw [nI_l (by omega), nI_l (by omega), C_low hN (by omega) (by omega) (by omega)]
          simp only [Option.bind_some, lN_i]
          exact ⟨M2, rfl, b2, b5⟩
      · obtain ⟨q, z1, -⟩ := C_cnt h hI hj
        rw [z1, if_neg (show ¬ (okA (g0 σ) (nI j) m ∧ wi p 0 1) from fun q => g3 q.2)]
        show DoC M ((fX10_isSlides M m).bind _) _
        simp only [C_isSlides, C_isPart, Option.bind_some, gd]
        rw [if_pos g2, if_neg g3]; exact J
    · obtain ⟨q, z1, -⟩ := C_cnt h hI hj
      rw [z1, if_neg (show ¬ (okA (g0 σ) (nI j) m ∧ wi p 0 1) from fun q => g2 q.1.2)]
      show DoC M ((fX10_isSlides M m).bind _) _
      simp only [C_isSlides, Option.bind_some, gd]
      rw [if_neg g2]; exact J
  · rw [if_neg (show ¬ (okA (g0 σ) a m ∧ wi p 0 1) from fun q => g q.1.1), (C_countingAt h hI a).1 g]
    exact J
