/-! a counting's cell stays where it is -/
theorem C_hearQ {N : Nat} {M : Mm} {σ : Sg} (h : RelC M σ) (hI : Ig σ) (hN : 2000 ≤ N) {ab : Int32} (hp : isP (g0 σ) ab) : ∃ M', fX1_hear N M 74 1 ab = some M' ∧ RelC M' σ ∧ HrP M' (g0 σ) (ab / 10) (rmI ab 10) ∧ FrC M M' ∧ Sm 0 74 M M' := by
  obtain ⟨a, b, ha, hb, -, ea, eb⟩ := isP_n hI.1 hp
  obtain ⟨M1, a1, a2, a3, a4, a5⟩ := C_hear (N := N) (t := 75) h hI (Or.inl rfl) hN ha
  obtain ⟨M2, b1, b2, b3, b4, b5⟩ := C_hear (N := N) (t := 90) a2 hI (Or.inr (Or.inl rfl)) hN hb
  refine ⟨M2, ?_, b2, ?_, a4.trans b4, fun k x y => (b5 k (by omega) (by omega)).trans (a5 k (by omega) (by omega))⟩
  · have q0 : gQ M 1 74 0 = some 75 := gQ_ok h.pr rfl
    have q1 : gQ M1 1 74 1 = some 90 := gQ_ok a2.pr rfl
    simp only [fX1_hear, gC_ok h.pr, q0, ea, eb, a1, q1, b1, Option.bind_some]
  · rw [ea, eb]
    exact ⟨a3.sm (fun k x y => b5 k (by omega) (by omega)), b3⟩
theorem C_cnt {M : Mm} {σ : Sg} (h : RelC M σ) (hI : Ig σ) {j : Nat} (hj : j < (sk (g0 σ)).length) : ∃ q, fX6_countingAt M 1 (nI j) = some (some q) ∧ ∀ M', RelC M' σ → Sm 0 74 M M' → CntAt M' q ((sk (g0 σ)).getD j []) := by
  have n1 := h.2.1
  have hk : (sk (g0 σ)).length ≤ 12 := hI.1.K
  obtain ⟨f, s1, s2, s3⟩ := n1.2.2.2
  have q7 : gQ M 6 1 7 = some (1 + 14) := gQ_ok n1.1 rfl
  obtain ⟨q, z1, z2⟩ := s3 j hj
  refine ⟨q, ?_, fun M' h' sm => ?_⟩
  · simp only [fX6_countingAt, n1.c, n1.n, q7, aL_ok s1 (by decide), aR_ok s1 (show j < 12 by omega) (by decide), Option.bind_some, z1]
    rw [if_neg (nI_pos (by omega)), if_neg (nI_ge hj (by omega)), if_neg (nI_ge (by omega) (by decide))]
  · obtain ⟨f', t1, t2, t3⟩ := h'.2.1.2.2.2
    rw [sm _ (by omega) (by omega), s1] at t1
    simp only [Option.some.injEq, Sum.inl.injEq, Prod.mk.injEq, Sum.inr.injEq, true_and] at t1
    obtain ⟨q', w1, w2⟩ := t3 j hj
    rw [← t1, z1] at w1
    cases w1
    exact w2
theorem okP_isP {S : St} (hI : Iv S) {x : Int32} (h : okP (sr S 1).length x) : isP S x := by
  have hl : (sr S 1).length ≤ 6 := hI.L 1 (by decide)
  obtain ⟨a, b, ha, hb, hab, rfl⟩ := h
  have e1 : nI (10 * a + b) / 10 = nI a := by
    rw [show (10 : Int32) = nI 10 from rfl, pk_div (by omega) (by decide) (by decide)]
    congr 1; omega
  have e2 : rmI (nI (10 * a + b)) 10 = nI b := by
    unfold rmI
    rw [show (10 : Int32) = nI 10 from rfl, pk_rem (by omega) (by decide) (by decide)]
    congr 1; omega
  refine ⟨nI_pos (by omega), ?_, ?_, ?_⟩
  · rw [e1]; exact (wi_n (by omega)).mpr ⟨a, ha, rfl⟩
  · rw [e2]; exact (wi_n (by omega)).mpr ⟨b, hb, rfl⟩
  · rw [e1, e2]; exact fun e => hab ((nI_eq (by omega) (by omega)).mp e)
theorem okD_mul {D : Int32} (hD : wi D 1 999) {i : Nat} (hi : i ≤ 41) : okD (nI i * D) := by
  rw [wi_i] at hD
  have e1 : (1 : Int32).toInt = 1 := by decide
  have e9 : (999 : Int32).toInt = 999 := by decide
  rw [e1, e9] at hD
  have b1 : 0 ≤ (i : Int) * D.toInt := Int.mul_nonneg (by omega) (by omega)
  have b2 : (i : Int) * D.toInt ≤ 41 * 999 := Int.mul_le_mul (by omega) (by omega) (by omega) (by omega)
  have m : (nI i * D).toInt = i * D.toInt := by
    rw [i_mul, nI_toInt (by omega)] <;> rw [nI_toInt (by omega)] <;> omega
  exact ⟨by rw [m]; omega, by rw [m]; omega⟩
theorem okD_0 : okD 0 := ⟨by decide, by decide⟩
theorem okD_s {D : Int32} (hD : wi D 1 999) : okD D := okD_w hD (by decide) (by decide)
/-- what holds of a counting's list -/
abbrev cL (c : List Int32) (k : Nat) : Int32 := c.getD k 0
/-! warm -/
def wmA (S : St) (ab l w D : Int32) : Nat → Int32
  | 0 => 0
  | i + 1 => wmA S ab l w D i + nI (mt S ab l w (nI (i + 1) * D))
def PrC (M : Mm) (σ : Sg) (q : Nat) (c : List Int32) (l : Int32) : Prop := RelC M σ ∧ KpP M (g0 σ) (cL c 2 / 10) (rmI (cL c 2) 10) l ∧ CntAt M q c
theorem PrC.of {M M' : Mm} {σ : Sg} {q : Nat} {c : List Int32} {l : Int32} (h : PrC M σ q c l) (h' : RelC M' σ) (o : Of (fun k => k = 105 ∨ k = 105 + 1) M M') : PrC M' σ q c l := ⟨h', h.2.1.of o (fun k q => by omega), (o.dy (fun k q => by omega)).2 _ _ h.2.2⟩
theorem C_mtC {N : Nat} {M : Mm} {σ : Sg} {q : Nat} {c : List Int32} {l w d : Int32} (h : PrC M σ q c l) (hI : Ig σ) (hN : 2000 ≤ N) (hw : wi w 0 50) (hd : okD d) : ∃ M', fX1_meeting N M 74 w d = some (nI (mt (g0 σ) (cL c 2) l w d), M') ∧ PrC M' σ q c l ∧ Of (fun k => k = 105 ∨ k = 105 + 1) M M' := by
  obtain ⟨M', a1, a2, a3, a4, a5⟩ := C_mt (N := N) h.1 hI hN h.2.1 hw hd
  exact ⟨M', a1, h.of a2 a5, a5⟩
theorem C_warmL {N : Nat} {σ : Sg} {q : Nat} {c : List Int32} {l : Int32} (hI : Ig σ) (hN : 2000 ≤ N) (hw : wi (cL c 4) 0 50) (hD : wi (cL c 5) 1 999) : ∀ (k i f : Nat) (M : Mm), i + k = 5 → k < f → PrC M σ q c l → ∃ M', LX1_warm_4 N f M 74 q (wmA (g0 σ) (cL c 2) l (cL c 4) (cL c 5) i) (nI (i + 1)) = some (wmA (g0 σ) (cL c 2) l (cL c 4) (cL c 5) 5 / 5, M') ∧ PrC M' σ q c l ∧ Of (fun k => k = 105 ∨ k = 105 + 1) M M' := by
  intro k
  induction k with
  | zero =>
    intro i f M hk hf h
    obtain ⟨f, rfl⟩ : ∃ g, f = g + 1 := ⟨f - 1, by omega⟩
    have e : i = 5 := by omega
    subst e
    refine ⟨M, ?_, h, Of.rf⟩
    show BX1_warm_4 N (LX1_warm_4 N f) M 74 q _ _ = _
    unfold BX1_warm_4
    rw [if_pos (by decide)]
  | succ k ih =>
    intro i f M hk hf h
    obtain ⟨f, rfl⟩ : ∃ g, f = g + 1 := ⟨f - 1, by omega⟩
    obtain ⟨M1, a1, a2, a3⟩ := C_mtC (N := N) (w := cL c 4) (d := nI (i + 1) * cL c 5) h hI hN hw (okD_mul hD (by omega))
    obtain ⟨M2, b1, b2, b3⟩ := ih (i + 1) f M1 (by omega) (by omega) a2
    refine ⟨M2, ?_, b2, a3.trans b3⟩
    show BX1_warm_4 N (LX1_warm_4 N f) M 74 q _ _ = _
    unfold BX1_warm_4
    simp only [h.2.2.i (show 4 < 6 by decide), h.2.2.i (show 5 < 6 by decide), Option.bind_some, nI_1]
    rw [if_neg (show ¬ (5 : Int32) < nI (i + 1) from nI_nlt (b := i + 1) (a := 5) (by omega) (by decide)), a1, bd2_s]
    exact b1
theorem C_warm {N : Nat} {M : Mm} {σ : Sg} {q : Nat} {c : List Int32} {l : Int32} (h : PrC M σ q c l) (hI : Ig σ) (hN : 2000 ≤ N) (hw : wi (cL c 4) 0 50) (hD : wi (cL c 5) 1 999) : ∃ M', fX1_warm N M 74 q = some (wmA (g0 σ) (cL c 2) l (cL c 4) (cL c 5) 5 / 5, M') ∧ PrC M' σ q c l ∧ Of (fun k => k = 105 ∨ k = 105 + 1) M M' := by
  obtain ⟨M', a1, a2⟩ := C_warmL (N := N) hI hN hw hD 5 0 N M (by omega) (by omega) h
  refine ⟨M', ?_, a2⟩
  simp only [fX1_warm, gC_ok h.1.pr, Option.bind_some]
  exact a1
/-! lined -/
def mx (a b : Int32) : Int32 := if a < b then b else a
theorem C_max (M : Mm) (a b : Int32) : fJ9_max_7cf53 M a b = some (mx a b) := by
  unfold fJ9_max_7cf53 mx
  by_cases h : a < b
  · rw [if_pos h, if_pos h]
  · rw [if_neg h, if_neg h]
def lnF (g : Int32 → Int32) : Nat → Nat → Int32 → Int32
  | 0, _, b => b
  | k + 1, x, b => if 999 < x then b else lnF g k (x + 50) (mx b (g (nI x)))
def lnG (S : St) (c : List Int32) (l : Int32) : Int32 := nI (mt S (cL c 2) l (cL c 4) 0) - nI (mt S (cL c 2) l (cL c 4) (cL c 5))
theorem C_linedL {N : Nat} {σ : Sg} {q : Nat} {c : List Int32} (hI : Ig σ) (hN : 2000 ≤ N) (hw : wi (cL c 4) 0 50) (hD : wi (cL c 5) 1 999) : ∀ (k x f : Nat) (M : Mm) (b : Int32), 999 < x + 50 * k → x < 100000 → k < f → RelC M σ → HrP M (g0 σ) (cL c 2 / 10) (rmI (cL c 2) 10) → CntAt M q c → ∃ M', LX1_lined_8 N f M 74 q b (nI x) = some (lnF (lnG (g0 σ) c) k x b, M') ∧ RelC M' σ ∧ FrC M M' ∧ Sm 0 74 M M' := by
  intro k
  induction k with
  | zero =>
    intro x f M b hk hx hf h hp hq
    obtain ⟨f, rfl⟩ : ∃ g, f = g + 1 := ⟨f - 1, by omega⟩
    refine ⟨M, ?_, h, FrC.rf, Sm.rf⟩
    show BX1_lined_8 N (LX1_lined_8 N f) M 74 q _ _ = _
    unfold BX1_lined_8
    rw [if_pos (show (999 : Int32) < nI x from nI_lt (a := 999) (by omega) (by omega))]
    rfl
  | succ k ih =>
    intro x f M b hk hx hf h hp hq
    obtain ⟨f, rfl⟩ : ∃ g, f = g + 1 := ⟨f - 1, by omega⟩
    show ∃ M', BX1_lined_8 N (LX1_lined_8 N f) M 74 q _ _ = some (if 999 < x then b else lnF (lnG (g0 σ) c) k (x + 50) (mx b (lnG (g0 σ) c (nI x))), M') ∧ _
    unfold BX1_lined_8
    by_cases z : 999 < x
    · rw [if_pos (show (999 : Int32) < nI x from nI_lt (a := 999) (by omega) (by omega)), if_pos z]
      exact ⟨M, rfl, h, FrC.rf, Sm.rf⟩
    · rw [if_neg (show ¬ (999 : Int32) < nI x from nI_nlt (a := 999) (by omega) (by decide)), if_neg z]
      obtain ⟨M1, a1, a2, a3, a4, a5⟩ := C_drawP (N := N) h hI hN hp (nI x)
      have q1 : CntAt M1 q c := (a5.dy (fun k q => by omega)).2 _ _ hq
      have p1 : PrC M1 σ q c (nI x) := ⟨a2, a4, q1⟩
      obtain ⟨M2, b1, b2, b3⟩ := C_mtC (N := N) (w := cL c 4) (d := 0) p1 hI hN hw okD_0
      obtain ⟨M3, c1, c2, c3⟩ := C_mtC (N := N) (w := cL c 4) (d := cL c 5) b2 hI hN hw (okD_s hD)
      have o3 := b3.trans c3
      obtain ⟨M4, d1, d2, d3, d4⟩ := ih (x + 50) f M3 (mx b (lnG (g0 σ) c (nI x))) (by omega) (by omega) (by omega) c2.1 (a3.of o3 (fun k q => by omega)) c2.2.2
      refine ⟨M4, ?_, d2, (a5.frC (fun k q => by omega)).trans ((o3.frC (fun k q => by omega)).trans d3), ((a5.sm (fun k x y => by omega)).trans (o3.sm (fun k x y => by omega))).trans d4⟩
      rw [a1]
      simp only [Option.bind_some, p1.2.2.i (show 4 < 6 by decide)]
      rw [b1, bd2_s]
      simp only [b2.2.2.i (show 4 < 6 by decide), b2.2.2.i (show 5 < 6 by decide), Option.bind_some]
      rw [c1, bd2_s, C_max]
      simp only [Option.bind_some]
      rw [show nI x + 50 = nI (x + 50) from nI_add x 50]
      exact d1
/-! near two -/
def twP (S : St) (a l w : Int32) (o : Nat) : Bool := decide (1 < (ctd S a l).countP (fun r => decide (¬ w < ab (shn S r - shn S o))))
theorem ab_i {y : Int32} (h : -2147483648 < y.toInt) : (ab y).toInt = if 0 ≤ y.toInt then y.toInt else -y.toInt := by
  have hy := Int32.toInt_lt y
  unfold ab
  by_cases z : 0 ≤ y
  · rw [if_pos z]
    rw [i_le, z_i] at z
    rw [if_pos z]
  · rw [if_neg z]
    rw [i_le, z_i] at z
    rw [if_neg z, Int32.toInt_neg]
    exact Int.bmod_eq_of_le (by omega) (by omega)
theorem cn_two {L : List Nat} {p : Nat → Bool} {j : Nat} (hj : j + 1 < L.length) (h1 : p (L[j]'(by omega)) = true) (h2 : p L[j + 1] = true) : 1 < L.countP p := by
  have e : L.countP p = (L.take (j + 1)).countP p + (L.drop (j + 1)).countP p := by rw [← List.countP_append, List.take_append_drop]
  have g1 : 0 < (L.take (j + 1)).countP p := List.countP_pos_iff.mpr ⟨L[j]'(by omega), List.mem_take_iff_getElem.mpr ⟨j, by omega, rfl⟩, h1⟩
  have g2 : 0 < (L.drop (j + 1)).countP p := List.countP_pos_iff.mpr ⟨L[j + 1], List.mem_drop_iff_getElem.mpr ⟨0, by omega, by simp⟩, h2⟩
  omega
theorem cn_one {L : List Nat} {p : Nat → Bool} {j : Nat} (h : ∀ x, ∀ hx : x < L.length, x ≠ j → p L[x] = false) : ¬ 1 < L.countP p := by
  have e : L.countP p = (L.take j).countP p + (L.drop j).countP p := by rw [← List.countP_append, List.take_append_drop]
  have g1 : (L.take j).countP p = 0 := by
    rw [List.countP_eq_zero]
    intro x hx
    obtain ⟨i, hi, rfl⟩ := List.mem_take_iff_getElem.mp hx
    rw [h i (by omega) (by omega)]
    decide
  rcases Nat.lt_or_ge j L.length with g | g
  · rw [List.drop_eq_getElem_cons g, List.countP_cons] at e
    have g2 : (L.drop (j + 1)).countP p = 0 := by
      rw [List.countP_eq_zero]
      intro x hx
      obtain ⟨i, hi, rfl⟩ := List.mem_drop_iff_getElem.mp hx
      rw [h _ _ (by omega)]
      decide
    have : (if p L[j] = true then 1 else 0) ≤ 1 := by split <;> omega
    omega
  · rw [List.drop_eq_nil_of_le g] at e
    simp at e
    omega
theorem C_ntI {N : Nat} {K : Mm → Nat → Int32 → Nat → Int32 → Int32 → Int32 → Option Int32} {M : Mm} {S : St} {a l w t n : Int32} {i : Nat} (h : Rw M 86 96 ((ctd S a l).map (shn S))) (hb : (ctd S a l).length ≤ 96) (ht : (t - w).toInt = t.toInt - w.toInt) : ∀ (k j f : Nat), j + k = (ctd S a l).length → k < f → (∀ x, ∀ hx : x < (ctd S a l).length, x < j → (shn S (ctd S a l)[x]).toInt < t.toInt - w.toInt) → ∃ j', j' ≤ (ctd S a l).length ∧ LX1_nearTwo_45 N K f M 74 w 86 n (nI j) (nI i) t = jX1_nearTwo_73 N K M 74 w 86 n (nI j') (nI i) t ∧ (∀ x, ∀ hx : x < (ctd S a l).length, x < j' → (shn S (ctd S a l)[x]).toInt < t.toInt - w.toInt) ∧ ∀ hj : j' < (ctd S a l).length, t.toInt - w.toInt ≤ (shn S (ctd S a l)[j']).toInt := by
  intro k
  induction k with
  | zero =>
    intro j f hk hf hx
    obtain ⟨f, rfl⟩ : ∃ g, f = g + 1 := ⟨f - 1, by omega⟩
    have e : j = (ctd S a l).length := by omega
    subst e
    refine ⟨(ctd S a l).length, Nat.le_refl _, ?_, hx, fun q => by omega⟩
    show BX1_nearTwo_45 N K (LX1_nearTwo_45 N K f) M 74 _ _ _ _ _ _ = _
    unfold BX1_nearTwo_45
    simp only [R_size h, Option.bind_some, List.length_map]
    rw [if_pos (nI_le (Nat.le_refl _) (by omega))]
  | succ k ih =>
    intro j f hk hf hx
    obtain ⟨f, rfl⟩ : ∃ g, f = g + 1 := ⟨f - 1, by omega⟩
    have hj : j < (ctd S a l).length := by omega
    have ej : ((ctd S a l).map (shn S)).getD j 0 = shn S (ctd S a l)[j] := getD_map_shn hj
    by_cases z : (t - w) ≤ shn S (ctd S a l)[j]
    · refine ⟨j, by omega, ?_, hx, fun _ => ?_⟩
      · show BX1_nearTwo_45 N K (LX1_nearTwo_45 N K f) M 74 _ _ _ _ _ _ = _
        unfold BX1_nearTwo_45
        simp only [R_size h, R_at h, lg_nI (show j < 2 ^ 31 by omega), ej, Option.bind_some, List.length_map]
        rw [if_neg (nI_ge hj (by omega)), if_pos z]
      · rw [i_le, ht] at z; exact z
    · obtain ⟨j', q1, q2, q3⟩ := ih (j + 1) f (by omega) (by omega) (fun x hx' hlt => by
        by_cases e : x = j
        · subst e
          rw [i_le, ht] at z; omega
        · exact hx x hx' (by omega))
      refine ⟨j', q1, ?_, q3⟩
      show BX1_nearTwo_45 N K (LX1_nearTwo_45 N K f) M 74 _ _ _ _ _ _ = _
      unfold BX1_nearTwo_45
      simp only [R_size h, R_at h, lg_nI (show j < 2 ^ 31 by omega), ej, Option.bind_some, List.length_map, nI_1]
      rw [if_neg (nI_ge hj (by omega)), if_neg z]
      exact q2
theorem C_ntL {N : Nat} {M : Mm} {S : St} {a b l w : Int32} (hI : Iv S) (hN : 2000 ≤ N) (hw : wi w 0 50) (m1 : M[74]? = some (.inr (1, [.ref 75, .ref 90, .ref 105, .ref 107]))) (m2 : M[90]? = some (.inr (7, tpF 90))) (hK : KpP M S a b l) : ∀ (k i j f : Nat), i + k = (ctd S b l).length → k < f → j ≤ (ctd S a l).length → (∀ y, ∀ hy : y < (ctd S b l).length, y = i → ∀ x, ∀ hx : x < (ctd S a l).length, x < j → (shn S (ctd S a l)[x]).toInt < (shn S (ctd S b l)[y]).toInt - w.toInt) → LX1_nearTwo_16 N f M 74 w 86 (nI (((ctd S b l).take i).countP (twP S a l w))) (nI j) (nI i) = some (nI ((ctd S b l).countP (twP S a l w))) := by
  have la := ctd_len hI a l
  have lb := ctd_len hI b l
  obtain ⟨w0, w1, -⟩ := w_i hw
  have q1 : gQ M 1 74 1 = some 90 := gQ_ok m1 rfl
  have q5 : gQ M 7 90 5 = some 101 := gQ_ok m2 rfl
  have w5 : Rw M 86 96 ((ctd S a l).map (shn S)) := hK.1.2
  have wo : Rw M 101 96 ((ctd S b l).map (shn S)) := hK.2.2
  intro k
  induction k with
  | zero =>
    intro i j f hk hf hj hx
    obtain ⟨f, rfl⟩ : ∃ g, f = g + 1 := ⟨f - 1, by omega⟩
    have e : i = (ctd S b l).length := by omega
    subst e
    show BX1_nearTwo_16 N (LX1_nearTwo_16 N f) M 74 _ _ _ _ _ = _
    unfold BX1_nearTwo_16
    simp only [q1, q5, R_size wo, Option.bind_some, List.length_map]
    rw [if_pos (nI_le (Nat.le_refl _) (by omega)), List.take_length]
  | succ k ih =>
    intro i j f hk hf hj hx
    obtain ⟨f, rfl⟩ : ∃ g, f = g + 1 := ⟨f - 1, by omega⟩
    have hi : i < (ctd S b l).length := by omega
    have ei : ((ctd S b l).map (shn S)).getD i 0 = shn S (ctd S b l)[i] := getD_map_shn hi
    have etk : (ctd S b l).take (i + 1) = (ctd S b l).take i ++ [(ctd S b l)[i]] := by rw [← List.take_concat_get hi, List.concat_eq_append]
    have hr := hI.shB (ctd S b l)[i]
    have t2 : (shn S (ctd S b l)[i] - w).toInt = (shn S (ctd S b l)[i]).toInt - w.toInt := i_sub (by omega) (by omega)
    have t3 : (shn S (ctd S b l)[i] + w).toInt = (shn S (ctd S b l)[i]).toInt + w.toInt := i_add (by omega) (by omega)
    obtain ⟨j', j1, j2, j3, j4⟩ := C_ntI (N := N) (K := LX1_nearTwo_16 N f) (M := M) (S := S) (a := a) (l := l) (w := w) (t := shn S (ctd S b l)[i]) (n := nI (((ctd S b l).take i).countP (twP S a l w))) (i := i) w5 la t2 ((ctd S a l).length - j) j N (by omega) (by omega) (fun x hx' hlt => hx i hi rfl x hx' hlt)
    have nx : ∀ y, ∀ hy : y < (ctd S b l).length, y = i + 1 → ∀ x, ∀ hx : x < (ctd S a l).length, x < j' → (shn S (ctd S a l)[x]).toInt < (shn S (ctd S b l)[y]).toInt - w.toInt := by
      intro y hy ey x hx' hlt
      have g1 := j3 x hx' hlt
      have g2 := ctd_le hI hi hy (by omega)
      omega
    have q := ih (i + 1) j' f (by omega) (by omega) j1 nx
    rw [etk, List.countP_append, List.countP_cons] at q
    have key : ∀ r, (¬ w < ab (shn S r - shn S (ctd S b l)[i])) ↔ ((shn S (ctd S b l)[i]).toInt - w.toInt ≤ (shn S r).toInt ∧ (shn S r).toInt ≤ (shn S (ctd S b l)[i]).toInt + w.toInt) := by
      intro r
      have h2 := hI.shB r
      have s : (shn S r - shn S (ctd S b l)[i]).toInt = (shn S r).toInt - (shn S (ctd S b l)[i]).toInt := i_sub (by omega) (by omega)
      rw [i_lt, ab_i (by omega), s]
      split <;> omega
    show BX1_nearTwo_16 N (LX1_nearTwo_16 N f) M 74 _ _ _ _ _ = _
    unfold BX1_nearTwo_16
    simp only [q1, q5, R_size wo, R_at wo, lg_nI (show i < 2 ^ 31 by omega), ei, Option.bind_some, List.length_map]
    rw [if_neg (nI_ge hi (by omega)), j2]
    unfold jX1_nearTwo_73
    simp only [R_size w5, R_at w5, nI_1, lg_nI (show j' + 1 < 2 ^ 31 by omega), Option.bind_some, List.length_map]
    have no : (¬ ∃ hj : j' + 1 < (ctd S a l).length, (shn S (ctd S a l)[j' + 1]).toInt ≤ (shn S (ctd S b l)[i]).toInt + w.toInt) → twP S a l w (ctd S b l)[i] = false := by
      intro hne
      refine decide_eq_false (cn_one (j := j') (fun x hx' hxj => decide_eq_false ?_))
      rw [key]
      rintro ⟨g1, g2⟩
      rcases Nat.lt_or_ge x j' with v | v
      · have := j3 x hx' v
        omega
      · have v2 : j' + 1 ≤ x := by omega
        have v3 : j' + 1 < (ctd S a l).length := by omega
        have := ctd_le hI v3 hx' v2
        exact hne ⟨v3, by omega⟩
    by_cases z : j' + 1 < (ctd S a l).length
    · rw [if_neg (nI_ge z (by omega)), getD_map_shn z]
      by_cases y : (shn S (ctd S b l)[i] + w) < shn S (ctd S a l)[j' + 1]
      · rw [if_pos y]
        rw [no (fun ⟨_, g⟩ => by rw [i_lt, t3] at y; omega), if_neg (by decide)] at q
        exact q
      · rw [if_neg y]
        rw [i_lt, t3] at y
        have g1 := j4 (by omega)
        have g2 := ctd_le hI (show j' < (ctd S a l).length by omega) z (by omega)
        have yes : twP S a l w (ctd S b l)[i] = true := decide_eq_true (cn_two z (decide_eq_true ((key _).mpr ⟨by omega, by omega⟩)) (decide_eq_true ((key _).mpr ⟨by omega, by omega⟩)))
        rw [yes, if_pos rfl] at q
        exact q
    · rw [if_pos (nI_le (by omega) (by omega))]
      rw [no (fun ⟨g, _⟩ => z g), if_neg (by decide)] at q
      exact q
theorem C_nearTwo {N : Nat} {M : Mm} {σ : Sg} {a b l w : Int32} (h : RelC M σ) (hI : Ig σ) (hN : 2000 ≤ N) (hK : KpP M (g0 σ) a b l) (hw : wi w 0 50) : fX1_nearTwo N M 74 w = some (nI ((ctd (g0 σ) b l).countP (twP (g0 σ) a l w))) := by
  have lb := ctd_len hI.1 b l
  have q := C_ntL (N := N) hI.1 hN hw h.pr (h.tpA (t := 90) (Or.inr (Or.inl rfl))).1 hK (ctd (g0 σ) b l).length 0 0 N (by omega) (by omega) (Nat.zero_le _) (fun y hy ey x hx hlt => by omega)
  have q0 : gQ M 1 74 0 = some 75 := gQ_ok h.pr rfl
  have q5 : gQ M 7 75 5 = some 86 := gQ_ok (h.tpA (t := 75) (Or.inl rfl)).1 rfl
  simp only [fX1_nearTwo, gC_ok h.pr, q0, q5, Option.bind_some]
  exact q
