/-! two bars: heard, by a line, meeting -/
def HrP (M : Mm) (S : St) (a b : Int32) : Prop := HrT M 75 S (tape S a) ∧ HrT M 90 S (tape S b)
def KpP (M : Mm) (S : St) (a b l : Int32) : Prop := Kp M 75 S (ctd S a l) ∧ Kp M 90 S (ctd S b l)
theorem RelC.pr {M : Mm} {σ : Sg} (h : RelC M σ) : M[74]? = some (.inr (1, [.ref 75, .ref 90, .ref 105, .ref 107])) := h.2.2.2.2.2.2.1.1.1
theorem isP_n {S : St} (hI : Iv S) {ab : Int32} (h : isP S ab) : ∃ a b : Nat, a < (sr S 1).length ∧ b < (sr S 1).length ∧ a ≠ b ∧ ab / 10 = nI a ∧ rmI ab 10 = nI b := by
  have hl : (sr S 1).length ≤ 6 := hI.L 1 (by decide)
  obtain ⟨h0, h1, h2, h3⟩ := h
  obtain ⟨a, ha, ea⟩ := (wi_n (by omega)).mp h1
  obtain ⟨b, hb, eb⟩ := (wi_n (by omega)).mp h2
  exact ⟨a, b, ha, hb, fun e => h3 (by rw [ea, eb, e]), ea, eb⟩
theorem C_hearP {N : Nat} {M : Mm} {σ : Sg} (h : RelC M σ) (hI : Ig σ) (hN : 2000 ≤ N) {ab : Int32} (hp : isP (g0 σ) ab) : ∃ M', fX1_hear N M 74 1 ab = some M' ∧ RelC M' σ ∧ HrP M' (g0 σ) (ab / 10) (rmI ab 10) ∧ FrC M M' := by
  obtain ⟨a, b, ha, hb, -, ea, eb⟩ := isP_n hI.1 hp
  obtain ⟨M1, a1, a2, a3, a4, a5⟩ := C_hear (N := N) (t := 75) h hI (Or.inl rfl) hN ha
  obtain ⟨M2, b1, b2, b3, b4, b5⟩ := C_hear (N := N) (t := 90) a2 hI (Or.inr (Or.inl rfl)) hN hb
  refine ⟨M2, ?_, b2, ?_, a4.trans b4⟩
  · have q0 : gQ M 1 74 0 = some 75 := gQ_ok h.pr rfl
    have q1 : gQ M1 1 74 1 = some 90 := gQ_ok a2.pr rfl
    simp only [fX1_hear, gC_ok h.pr, q0, ea, eb, a1, q1, b1, Option.bind_some]
  · rw [ea, eb]
    exact ⟨a3.sm (fun k x y => b5 k (by omega) (by omega)), b3⟩
theorem C_drawP {N : Nat} {M : Mm} {σ : Sg} {a b : Int32} (h : RelC M σ) (hI : Ig σ) (hN : 2000 ≤ N) (hp : HrP M (g0 σ) a b) (l : Int32) : ∃ M', fX1_drawLine N M 74 l = some M' ∧ RelC M' σ ∧ HrP M' (g0 σ) a b ∧ KpP M' (g0 σ) a b l ∧ Of (fun k => (84 ≤ k ∧ k < 88) ∨ (99 ≤ k ∧ k < 103)) M M' := by
  obtain ⟨M1, a1, a2, a3, a4, a5⟩ := C_keep (N := N) (t := 75) h hI (Or.inl rfl) hN hp.1 l
  have p2 : HrT M1 90 (g0 σ) (tape (g0 σ) b) := hp.2.of a5 (fun k x y => by omega)
  obtain ⟨M2, b1, b2, b3, b4, b5⟩ := C_keep (N := N) (t := 90) a2 hI (Or.inr (Or.inl rfl)) hN p2 l
  refine ⟨M2, ?_, b2, ⟨a3.of b5 (fun k x y => by omega), b3⟩, ⟨⟨a4.1.of b5 (by omega) (by omega), a4.2.of b5 (by omega) (by omega)⟩, b4⟩, (a5.mono (fun k q => by omega)).trans (b5.mono (fun k q => by omega))⟩
  have q0 : gQ M 1 74 0 = some 75 := gQ_ok h.pr rfl
  have q1 : gQ M1 1 74 1 = some 90 := gQ_ok a2.pr rfl
  simp only [fX1_drawLine, gC_ok h.pr, q0, a1, q1, b1, Option.bind_some]
/-! meeting, purely -/
def nrW (S : St) (w d : Int32) (r o : Nat) : Prop := wi (shn S r - shn S o - d) (-w) w
def metB (S : St) (b l w d : Int32) (r : Nat) : Bool := (ctd S b l).any (fun o => decide (¬ (shn S r - shn S o - d) < -w ∧ ¬ w < (shn S r - shn S o - d)))
def metL (S : St) (a b l w d : Int32) : List Nat := (ctd S a l).filter (metB S b l w d)
def okD (d : Int32) : Prop := -100000 ≤ d.toInt ∧ d.toInt ≤ 100000
theorem Iv.shB {S : St} (h : Iv S) (r : Nat) : -999 ≤ (shn S r).toInt ∧ (shn S r).toInt ≤ 10998 := by
  have h1 := h.tn r
  have h2 := h.ck ((sr S 2).getD r 0)
  rw [h.sh r]
  omega
theorem ctd_le {S : St} (h : Iv S) {bar l : Int32} {i j : Nat} (hi : i < (ctd S bar l).length) (hj : j < (ctd S bar l).length) (hij : i ≤ j) : (shn S (ctd S bar l)[i]).toInt ≤ (shn S (ctd S bar l)[j]).toInt := by
  rcases Nat.lt_or_ge i j with g | g
  · have w := (List.pairwise_iff_getElem.mp (ctd_pw h bar l)) i j hi hj g
    have m1 := mem_ctd.mp (List.getElem_mem hi)
    have m2 := mem_ctd.mp (List.getElem_mem hj)
    rw [ahd_i] at w
    rw [h.sh, h.sh, m1.2.1, m2.2.1]
    omega
  · have e : i = j := by omega
    subst e
    exact Int.le_refl _
theorem w_i {w : Int32} (hw : wi w 0 50) : 0 ≤ w.toInt ∧ w.toInt ≤ 50 ∧ (-w).toInt = -w.toInt := by
  have q := wi_i.mp hw
  have e0 : (0 : Int32).toInt = 0 := by decide
  have e5 : (50 : Int32).toInt = 50 := by decide
  rw [e0, e5] at q
  refine ⟨q.1, q.2, ?_⟩
  rw [Int32.toInt_neg]
  exact Int.bmod_eq_of_le (by omega) (by omega)
theorem metB_i {S : St} (h : Iv S) {b l w d : Int32} (hw : wi w 0 50) (hd : okD d) (r : Nat) : metB S b l w d r = true ↔ ∃ j, ∃ hj : j < (ctd S b l).length, (shn S r).toInt - d.toInt - w.toInt ≤ (shn S (ctd S b l)[j]).toInt ∧ (shn S (ctd S b l)[j]).toInt ≤ (shn S r).toInt - d.toInt + w.toInt := by
  obtain ⟨w0, w1, w2⟩ := w_i hw
  have hr := h.shB r
  have key : ∀ o, (¬ (shn S r - shn S o - d) < -w ∧ ¬ w < (shn S r - shn S o - d)) ↔ (shn S r).toInt - d.toInt - w.toInt ≤ (shn S o).toInt ∧ (shn S o).toInt ≤ (shn S r).toInt - d.toInt + w.toInt := by
    intro o
    have ho := h.shB o
    have s1 : (shn S r - shn S o).toInt = (shn S r).toInt - (shn S o).toInt := i_sub (by omega) (by omega)
    have s2 : (shn S r - shn S o - d).toInt = (shn S r).toInt - (shn S o).toInt - d.toInt := by
      rw [i_sub (by rw [s1]; have := hd.1; have := hd.2; omega) (by rw [s1]; have := hd.1; have := hd.2; omega), s1]
    rw [i_lt, i_lt, s2, w2]
    omega
  unfold metB
  rw [List.any_eq_true]
  constructor
  · rintro ⟨o, ho, hp⟩
    obtain ⟨j, hj, e⟩ := List.getElem_of_mem ho
    exact ⟨j, hj, by rw [e]; exact (key o).mp (of_decide_eq_true hp)⟩
  · rintro ⟨j, hj, hp⟩
    exact ⟨_, List.getElem_mem hj, decide_eq_true ((key _).mpr hp)⟩
/-! meeting (the rows) -/
theorem C_mtI {N : Nat} {K : Mm → Nat → Int32 → Int32 → Nat → Int32 → Int32 → Option (Int32 × Mm)} {M : Mm} {S : St} {b l w d t : Int32} {i : Nat} (h : Rw M 101 96 ((ctd S b l).map (shn S))) (hb : (ctd S b l).length ≤ 96) (ht : (t - w).toInt = t.toInt - w.toInt) : ∀ (k j f : Nat), j + k = (ctd S b l).length → k < f → (∀ x, ∀ hx : x < (ctd S b l).length, x < j → (shn S (ctd S b l)[x]).toInt < t.toInt - w.toInt) → ∃ j', j' ≤ (ctd S b l).length ∧ LX1_meeting_52 N K f M 74 w d 101 (nI j) (nI i) t = jX1_meeting_80 N K M 74 w d 101 (nI j') (nI i) t ∧ (∀ x, ∀ hx : x < (ctd S b l).length, x < j' → (shn S (ctd S b l)[x]).toInt < t.toInt - w.toInt) ∧ ∀ hj : j' < (ctd S b l).length, t.toInt - w.toInt ≤ (shn S (ctd S b l)[j']).toInt := by
  intro k
  induction k with
  | zero =>
    intro j f hk hf hx
    obtain ⟨f, rfl⟩ : ∃ g, f = g + 1 := ⟨f - 1, by omega⟩
    have e : j = (ctd S b l).length := by omega
    subst e
    refine ⟨(ctd S b l).length, Nat.le_refl _, ?_, hx, fun q => by omega⟩
    show BX1_meeting_52 N K (LX1_meeting_52 N K f) M 74 _ _ _ _ _ _ = _
    unfold BX1_meeting_52
    simp only [R_size h, Option.bind_some, List.length_map]
    rw [if_pos (nI_le (Nat.le_refl _) (by omega))]
  | succ k ih =>
    intro j f hk hf hx
    obtain ⟨f, rfl⟩ : ∃ g, f = g + 1 := ⟨f - 1, by omega⟩
    have hj : j < (ctd S b l).length := by omega
    have ej : ((ctd S b l).map (shn S)).getD j 0 = shn S (ctd S b l)[j] := getD_map_shn hj
    by_cases z : (t - w) ≤ shn S (ctd S b l)[j]
    · refine ⟨j, by omega, ?_, hx, fun _ => ?_⟩
      · show BX1_meeting_52 N K (LX1_meeting_52 N K f) M 74 _ _ _ _ _ _ = _
        unfold BX1_meeting_52
        simp only [R_size h, R_at h, lg_nI (show j < 2 ^ 31 by omega), ej, Option.bind_some, List.length_map]
        rw [if_neg (nI_ge hj (by omega)), if_pos z]
      · rw [i_le, ht] at z; exact z
    · obtain ⟨j', q1, q2, q3⟩ := ih (j + 1) f (by omega) (by omega) (fun x hx' hlt => by
        by_cases e : x = j
        · subst e
          rw [i_le, ht] at z; omega
        · exact hx x hx' (by omega))
      refine ⟨j', q1, ?_, q3⟩
      show BX1_meeting_52 N K (LX1_meeting_52 N K f) M 74 _ _ _ _ _ _ = _
      unfold BX1_meeting_52
      simp only [R_size h, R_at h, lg_nI (show j < 2 ^ 31 by omega), ej, Option.bind_some, List.length_map, nI_1]
      rw [if_neg (nI_ge hj (by omega)), if_neg z]
      exact q2
theorem C_mtL {N : Nat} {S : St} {a b l w d : Int32} (hI : Iv S) (hN : 2000 ≤ N) (hw : wi w 0 50) (hd : okD d) : ∀ (k i j f : Nat) (M : Mm), i + k = (ctd S a l).length → k < f → j ≤ (ctd S b l).length → M[74]? = some (.inr (1, [.ref 75, .ref 90, .ref 105, .ref 107])) → M[75]? = some (.inr (7, tpF 75)) → KpP M S a b l → Rw M 105 96 ((((ctd S a l).take i).filter (metB S b l w d)).map nI) → (∀ y, ∀ hy : y < (ctd S a l).length, y = i → ∀ x, ∀ hx : x < (ctd S b l).length, x < j → (shn S (ctd S b l)[x]).toInt < (shn S (ctd S a l)[y]).toInt - d.toInt - w.toInt) → ∃ M', LX1_meeting_21 N f M 74 w d 101 (nI j) (nI i) = some (nI (metL S a b l w d).length, M') ∧ Rw M' 105 96 ((metL S a b l w d).map nI) ∧ Of (fun k => k = 105 ∨ k = 105 + 1) M M' := by
  have la := ctd_len hI a l
  have lb := ctd_len hI b l
  obtain ⟨w0, w1, -⟩ := w_i hw
  have hd1 := hd.1
  have hd2 := hd.2
  intro k
  induction k with
  | zero =>
    intro i j f M hk hf hj m1 m2 hK hR hx
    obtain ⟨f, rfl⟩ : ∃ g, f = g + 1 := ⟨f - 1, by omega⟩
    have e : i = (ctd S a l).length := by omega
    subst e
    rw [List.take_length] at hR
    have q0 : gQ M 1 74 0 = some 75 := gQ_ok m1 rfl
    have q2 : gQ M 1 74 2 = some 105 := gQ_ok m1 rfl
    have q5 : gQ M 7 75 5 = some 86 := gQ_ok m2 rfl
    have w5 : Rw M 86 96 ((ctd S a l).map (shn S)) := hK.1.2
    refine ⟨M, ?_, hR, Of.rf⟩
    show BX1_meeting_21 N (LX1_meeting_21 N f) M 74 _ _ _ _ _ = _
    unfold BX1_meeting_21
    simp only [q0, q2, q5, R_size w5, R_size hR, Option.bind_some, List.length_map]
    rw [if_pos (nI_le (Nat.le_refl _) (by omega))]
    rfl
  | succ k ih =>
    intro i j f M hk hf hj m1 m2 hK hR hx
    obtain ⟨f, rfl⟩ : ∃ g, f = g + 1 := ⟨f - 1, by omega⟩
    have hi : i < (ctd S a l).length := by omega
    have q0 : gQ M 1 74 0 = some 75 := gQ_ok m1 rfl
    have q2 : gQ M 1 74 2 = some 105 := gQ_ok m1 rfl
    have q5 : gQ M 7 75 5 = some 86 := gQ_ok m2 rfl
    have q4 : gQ M 7 75 4 = some 84 := gQ_ok m2 rfl
    have w5 : Rw M 86 96 ((ctd S a l).map (shn S)) := hK.1.2
    have w4 : Rw M 84 96 ((ctd S a l).map nI) := hK.1.1
    have wo : Rw M 101 96 ((ctd S b l).map (shn S)) := hK.2.2
    have ei : ((ctd S a l).map (shn S)).getD i 0 = shn S (ctd S a l)[i] := getD_map_shn hi
    have er : ((ctd S a l).map nI).getD i 0 = nI (ctd S a l)[i] := by
      rw [List.getD_eq_getElem?_getD, List.getElem?_map, List.getElem?_eq_getElem hi]; rfl
    have etk : (ctd S a l).take (i + 1) = (ctd S a l).take i ++ [(ctd S a l)[i]] := by rw [← List.take_concat_get hi, List.concat_eq_append]
    have hr := hI.shB (ctd S a l)[i]
    have t1 : (shn S (ctd S a l)[i] - d).toInt = (shn S (ctd S a l)[i]).toInt - d.toInt := i_sub (by omega) (by omega)
    have t2 : (shn S (ctd S a l)[i] - d - w).toInt = (shn S (ctd S a l)[i] - d).toInt - w.toInt := i_sub (by omega) (by omega)
    have t3 : (shn S (ctd S a l)[i] - d + w).toInt = (shn S (ctd S a l)[i] - d).toInt + w.toInt := i_add (by omega) (by omega)
    obtain ⟨j', j1, j2, j3, j4⟩ := C_mtI (N := N) (K := LX1_meeting_21 N f) (M := M) (S := S) (b := b) (l := l) (w := w) (d := d) (t := shn S (ctd S a l)[i] - d) (i := i) wo lb t2 ((ctd S b l).length - j) j N (by omega) (by omega) (fun x hx' hlt => by rw [t1]; exact hx i hi rfl x hx' hlt)
    have mi := metB_i hI (b := b) (l := l) hw hd (ctd S a l)[i]
    have nx : ∀ y, ∀ hy : y < (ctd S a l).length, y = i + 1 → ∀ x, ∀ hx : x < (ctd S b l).length, x < j' → (shn S (ctd S b l)[x]).toInt < (shn S (ctd S a l)[y]).toInt - d.toInt - w.toInt := by
      intro y hy ey x hx' hlt
      have g1 := j3 x hx' hlt
      have g2 := ctd_le hI hi hy (by omega)
      rw [t1] at g1
      omega
    show ∃ M', BX1_meeting_21 N (LX1_meeting_21 N f) M 74 _ _ _ _ _ = _ ∧ _
    unfold BX1_meeting_21
    simp only [q0, q5, R_size w5, R_at w5, lg_nI (show i < 2 ^ 31 by omega), ei, Option.bind_some, List.length_map]
    rw [if_neg (nI_ge hi (by omega)), j2]
    unfold jX1_meeting_80
    simp only [R_size wo, R_at wo, lg_nI (show j' < 2 ^ 31 by omega), q0, q2, q4, R_at w4, lg_nI (show i < 2 ^ 31 by omega), er, Option.bind_some, List.length_map, nI_1]
    by_cases z : j' < (ctd S b l).length
    · rw [if_neg (nI_ge z (by omega)), getD_map_shn z]
      by_cases y : (shn S (ctd S a l)[i] - d + w) < shn S (ctd S b l)[j']
      · rw [if_pos y]
        have nm : ¬ metB S b l w d (ctd S a l)[i] = true := by
          rw [mi]
          rintro ⟨x, hx', g1, g2⟩
          rw [i_lt, t3, t1] at y
          rcases Nat.lt_or_ge x j' with v | v
          · have := j3 x hx' v
            rw [t1] at this
            omega
          · have := ctd_le hI z hx' v
            omega
        have ef : ((ctd S a l).take (i + 1)).filter (metB S b l w d) = ((ctd S a l).take i).filter (metB S b l w d) := by
          rw [etk, List.filter_append, List.filter_cons, if_neg nm]; simp
        exact ih (i + 1) j' f M (by omega) (by omega) j1 m1 m2 hK (by rw [ef]; exact hR) nx
      · rw [if_neg y]
        have nm : metB S b l w d (ctd S a l)[i] = true := by
          rw [mi]
          refine ⟨j', z, ?_, ?_⟩
          · have := j4 z
            rw [t1] at this
            exact this
          · rw [i_lt, t3, t1] at y; omega
        have ef : ((ctd S a l).take (i + 1)).filter (metB S b l w d) = ((ctd S a l).take i).filter (metB S b l w d) ++ [(ctd S a l)[i]] := by
          rw [etk, List.filter_append, List.filter_cons, if_pos nm]; rfl
        have lf : (((ctd S a l).take i).filter (metB S b l w d)).length ≤ i := Nat.le_trans (List.length_filter_le _ _) (by simp; omega)
        obtain ⟨M1, a1, a2, a3⟩ := R_add hR (nI (ctd S a l)[i]) (by rw [List.length_map]; omega)
        obtain ⟨M2, b1, b2, b3⟩ := ih (i + 1) j' f M1 (by omega) (by omega) j1 (by rw [a3.2 _ (by omega)]; exact m1) (by rw [a3.2 _ (by omega)]; exact m2) ⟨⟨hK.1.1.of a3 (by omega) (by omega), hK.1.2.of a3 (by omega) (by omega)⟩, ⟨hK.2.1.of a3 (by omega) (by omega), hK.2.2.of a3 (by omega) (by omega)⟩⟩ (by rw [ef, List.map_append]; exact a2) nx
        refine ⟨M2, ?_, b2, a3.trans b3⟩
        rw [a1, bd2_s]
        exact b1
    · rw [if_pos (nI_le (by omega) (by omega))]
      have nm : ¬ metB S b l w d (ctd S a l)[i] = true := by
        rw [mi]
        rintro ⟨x, hx', g1, g2⟩
        have := j3 x hx' (by omega)
        rw [t1] at this
        omega
      have ef : ((ctd S a l).take (i + 1)).filter (metB S b l w d) = ((ctd S a l).take i).filter (metB S b l w d) := by
        rw [etk, List.filter_append, List.filter_cons, if_neg nm]; simp
      exact ih (i + 1) j' f M (by omega) (by omega) j1 m1 m2 hK (by rw [ef]; exact hR) nx
theorem RelC.met {M M' : Mm} {σ : Sg} {ys : List Int32} (h : RelC M σ) (o : Of (fun k => k = 105 ∨ k = 105 + 1) M M') (g : Rw M' 105 96 ys) : RelC M' σ := by
  obtain ⟨⟨h1, h2, h3, h4, h5⟩, h6, ⟨⟨u, v, h7⟩, h8, h9⟩, ⟨j, pl, h10⟩, h11, h12⟩ := h.2.2.2.2.2.2.1
  refine h.scr (o.sm (fun k a b => by omega)) (o.sm (fun k a b => by omega)) (o.dy (fun k q => by omega)) ⟨⟨by rw [o.2 74 (by omega)]; exact h1, h2.mv (o.sm (fun k a b => by omega)), h3.mv (o.sm (fun k a b => by omega)), ⟨_, g⟩, h5.mv (o.sm (fun k a b => by omega))⟩, h6.mv (o.sm (fun k a b => by omega)), ⟨⟨u, v, by rw [o.2 124 (by omega)]; exact h7⟩, h8.mv (o.sm (fun k a b => by omega)), h9.mv (o.sm (fun k a b => by omega))⟩, ⟨j, pl, by rw [o.2 132 (by omega)]; exact h10⟩, h11.mv (o.sm (fun k a b => by omega)), h12.mv (o.sm (fun k a b => by omega))⟩ (by rw [o.1]; exact h.2.2.2.2.2.2.2)
theorem HrP.of {P : Nat → Prop} {M M' : Mm} {S : St} {a b : Int32} (h : HrP M S a b) (o : Of P M M') (g : ∀ k, (75 ≤ k ∧ k < 84) ∨ (90 ≤ k ∧ k < 99) → ¬ P k) : HrP M' S a b := ⟨h.1.of o (fun k x y => g k (by omega)), h.2.of o (fun k x y => g k (by omega))⟩
theorem KpP.of {P : Nat → Prop} {M M' : Mm} {S : St} {a b l : Int32} (h : KpP M S a b l) (o : Of P M M') (g : ∀ k, (84 ≤ k ∧ k < 88) ∨ (99 ≤ k ∧ k < 103) → ¬ P k) : KpP M' S a b l := ⟨⟨h.1.1.of o (g _ (by omega)) (g _ (by omega)), h.1.2.of o (g _ (by omega)) (g _ (by omega))⟩, ⟨h.2.1.of o (g _ (by omega)) (g _ (by omega)), h.2.2.of o (g _ (by omega)) (g _ (by omega))⟩⟩
theorem C_meeting {N : Nat} {M : Mm} {σ : Sg} {a b l w d : Int32} (h : RelC M σ) (hI : Ig σ) (hN : 2000 ≤ N) (hK : KpP M (g0 σ) a b l) (hw : wi w 0 50) (hd : okD d) : ∃ M', fX1_meeting N M 74 w d = some (nI (metL (g0 σ) a b l w d).length, M') ∧ RelC M' σ ∧ Rw M' 105 96 ((metL (g0 σ) a b l w d).map nI) ∧ KpP M' (g0 σ) a b l ∧ Of (fun k => k = 105 ∨ k = 105 + 1) M M' := by
  have la := ctd_len hI.1 a l
  obtain ⟨x4, z4⟩ := h.2.2.2.2.2.2.1.1.2.2.2.1
  obtain ⟨M1, a1, a2, a3⟩ := R_clear z4
  have t75 := (h.tpA (t := 75) (Or.inl rfl)).1
  obtain ⟨M2, b1, b2, b3⟩ := C_mtL (N := N) (S := g0 σ) (a := a) (b := b) (l := l) hI.1 hN hw hd (ctd (g0 σ) a l).length 0 0 N M1 (by omega) (by omega) (Nat.zero_le _) (by rw [a3.2 _ (by omega)]; exact h.pr) (by rw [a3.2 _ (by omega)]; exact t75) (hK.of a3 (fun k q => by omega)) a2 (fun y hy ey x hx hlt => by omega)
  have o := a3.trans b3
  refine ⟨M2, ?_, h.met o b2, b2, hK.of o (fun k q => by omega), o⟩
  have q1 : gQ M 1 74 1 = some 90 := gQ_ok h.pr rfl
  have q2 : gQ M 1 74 2 = some 105 := gQ_ok h.pr rfl
  have q5 : gQ M 7 90 5 = some 101 := gQ_ok (h.tpA (t := 90) (Or.inr (Or.inl rfl))).1 rfl
  simp only [fX1_meeting, gC_ok h.pr, q1, q2, q5, a1, Option.bind_some]
  exact b1
