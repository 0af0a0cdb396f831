/-! hours, end -/
theorem metB_cov {S : St} (hI : Iv S) {b l w d : Int32} (hw : wi w 0 50) (hd : okD d) (r : Nat) : metB S b l w d r = covB S (ctd S b l) (shn S r).toInt w.toInt d.toInt 0 := by
  rw [Bool.eq_iff_iff, metB_i hI hw hd]
  unfold covB
  rw [List.drop_zero, List.any_eq_true]
  constructor
  · rintro ⟨j, hj, h⟩
    exact ⟨_, List.getElem_mem hj, decide_eq_true h⟩
  · rintro ⟨o, ho, h⟩
    obtain ⟨j, hj, e⟩ := List.getElem_of_mem ho
    exact ⟨j, hj, by rw [e]; exact of_decide_eq_true h⟩
def sd (E x : Nat) : Int32 := nI x - nI E
theorem sd_i {E x : Nat} (hE : E ≤ 400) (hx : x ≤ 2 * E) : (sd E x).toInt = (x : Int) - E := pk_sub_toInt (by omega) (by omega)
theorem sd_ok {E x : Nat} (hE : E ≤ 400) (hx : x ≤ 2 * E) : okD (sd E x) := ⟨by rw [sd_i hE hx]; omega, by rw [sd_i hE hx]; omega⟩
theorem C_mark {N : Nat} {M : Mm} {S : St} {a b l w : Int32} {E : Nat} {base : Nat → Int32} {D : List Int32} {r : Nat} (hI : Iv S) (hN : 2000 ≤ N) (hw : wi w 0 50) (hE : E ≤ 400) (m1 : M[74]? = some (.inr (1, [.ref 75, .ref 90, .ref 105, .ref 107]))) (m2 : M[90]? = some (.inr (7, tpF 90))) (hK : KpP M S a b l) (hD : Rw M 107 802 D) (hl : D.length = 2 * E + 2) (hp : ∀ x, x ≤ 2 * E → pre D x = base x) : ∃ M' D', fX1_markSlides N M 74 (shn S r) w (nI E) = some M' ∧ Rw M' 107 802 D' ∧ D'.length = 2 * E + 2 ∧ (∀ x : Nat, x ≤ 2 * E → pre D' x = base x + if metB S b l w (sd E x) r = true then 1 else 0) ∧ Of (fun k => k = 107 ∨ k = 107 + 1) M M' := by
  have lb := ctd_len hI b l
  have q1 : gQ M 1 74 1 = some 90 := gQ_ok m1 rfl
  have q5 : gQ M 7 90 5 = some 101 := gQ_ok m2 rfl
  have wo : Rw M 101 96 ((ctd S b l).map (shn S)) := hK.2.2
  have en : (-nI E).toInt = -(E : Int) := by
    rw [Int32.toInt_neg, nI_toInt (by omega)]
    exact Int.bmod_eq_of_le (by omega) (by omega)
  have cf : ∀ d, covB S (ctd S b l) (shn S r).toInt w.toInt d (ctd S b l).length = false := fun d => by
    unfold covB; rw [List.drop_length]; rfl
  obtain ⟨M', D', a1, a2, a3, a4, a5⟩ := C_markL (N := N) (b := b) (l := l) (w := w) (t := shn S r) (E := E) (base := base) hI hw hE (hI.shB r) (ctd S b l).length N M (-nI E) D (Nat.le_refl _) (by omega) m1 m2 wo hD ⟨hl, ⟨by omega, by omega⟩, fun d d1 d2 hc => (by rw [cf] at hc; cases hc), fun x hx => (by rw [cf, if_neg (by decide), Int32.add_zero]; exact hp x hx), fun d d1 d2 y hy hlt hle => by omega⟩
  refine ⟨M', D', ?_, a2, a3, fun x hx => ?_, a5⟩
  · simp only [fX1_markSlides, gC_ok m1, q1, q5, R_size wo, Option.bind_some, List.length_map]
    exact a1
  · rw [a4 x hx, metB_cov hI hw (sd_ok hE hx), sd_i hE hx]
theorem C_sumL {N : Nat} {D : List Int32} (hD : D.length ≤ 802) : ∀ (k i f : Nat) (M : Mm) (R : List Int32), i + 1 + k = D.length → k < f → M[74]? = some (.inr (1, [.ref 75, .ref 90, .ref 105, .ref 107])) → Rw M 107 802 R → R.length = D.length → (∀ x, x ≤ i → R.getD x 0 = pre D x) → (∀ x, i < x → R.getD x 0 = D.getD x 0) → ∃ M' R', LX1_meetBySlides_54 N f M 74 (nI (i + 1)) = some M' ∧ Rw M' 107 802 R' ∧ (∀ x, x < D.length → R'.getD x 0 = pre D x) ∧ Of (fun k => k = 107 ∨ k = 107 + 1) M M' := by
  intro k
  induction k with
  | zero =>
    intro i f M R hk hf m1 h hl h1 h2
    obtain ⟨f, rfl⟩ : ∃ g, f = g + 1 := ⟨f - 1, by omega⟩
    have q3 : gQ M 1 74 3 = some 107 := gQ_ok m1 rfl
    refine ⟨M, R, ?_, h, fun x hx => h1 x (by omega), Of.rf⟩
    show BX1_meetBySlides_54 N (LX1_meetBySlides_54 N f) M 74 _ = _
    unfold BX1_meetBySlides_54
    simp only [q3, R_size h, Option.bind_some]
    rw [if_pos (nI_le (by omega) (by omega))]
  | succ k ih =>
    intro i f M R hk hf m1 h hl h1 h2
    obtain ⟨f, rfl⟩ : ∃ g, f = g + 1 := ⟨f - 1, by omega⟩
    have q3 : gQ M 1 74 3 = some 107 := gQ_ok m1 rfl
    obtain ⟨M1, a1, a2, a3⟩ := R_raise h (j := i + 1) (by omega) (pre D i)
    obtain ⟨M2, R2, b1, b2, b3, b4⟩ := ih (i + 1) f M1 _ (by omega) (by omega) (by rw [a3.2 _ (by omega)]; exact m1) a2 (by rw [List.length_set]; exact hl) (fun x hx => by
        rw [getD_set (by omega)]
        by_cases e : x = i + 1
        · subst e
          rw [if_pos rfl, h2 _ (by omega)]
          show _ = pre D i + D.getD (i + 1) 0
          exact Int32.add_comm _ _
        · rw [if_neg e]; exact h1 x (by omega)) (fun x hx => by
        rw [getD_set (by omega), if_neg (by omega)]
        exact h2 x (by omega))
    refine ⟨M2, R2, ?_, b2, b3, a3.trans b4⟩
    show BX1_meetBySlides_54 N (LX1_meetBySlides_54 N f) M 74 _ = _
    unfold BX1_meetBySlides_54
    simp only [q3, R_size h, R_at h, nI_pred, lg_nI (show i < 2 ^ 31 by omega), h1 i (Nat.le_refl _), a1, Option.bind_some, nI_1]
    rw [if_neg (nI_ge (by omega) (by omega))]
    exact b1
theorem C_mbsL {N : Nat} {S : St} {a b l w : Int32} {E : Nat} (hI : Iv S) (hN : 2000 ≤ N) (hw : wi w 0 50) (hE : E ≤ 400) : ∀ (k i f : Nat) (M : Mm) (D : List Int32), i + k = (ctd S a l).length → k < f → M[74]? = some (.inr (1, [.ref 75, .ref 90, .ref 105, .ref 107])) → M[75]? = some (.inr (7, tpF 75)) → M[90]? = some (.inr (7, tpF 90)) → KpP M S a b l → Rw M 107 802 D → D.length = 2 * E + 2 → (∀ x, x ≤ 2 * E → pre D x = nI (((ctd S a l).take i).countP (metB S b l w (sd E x)))) → ∃ M' R', LX1_meetBySlides_15 N f M 74 w (nI E) (nI i) = some M' ∧ Rw M' 107 802 R' ∧ (∀ x, x ≤ 2 * E → R'.getD x 0 = nI (metL S a b l w (sd E x)).length) ∧ Of (fun k => k = 107 ∨ k = 107 + 1) M M' := by
  have la := ctd_len hI a l
  intro k
  induction k with
  | zero =>
    intro i f M D hk hf m1 m2 m3 hK hD hl hp
    obtain ⟨f, rfl⟩ : ∃ g, f = g + 1 := ⟨f - 1, by omega⟩
    have e : i = (ctd S a l).length := by omega
    subst e
    rw [List.take_length] at hp
    have q0 : gQ M 1 74 0 = some 75 := gQ_ok m1 rfl
    have q5 : gQ M 7 75 5 = some 86 := gQ_ok m2 rfl
    have w5 : Rw M 86 96 ((ctd S a l).map (shn S)) := hK.1.2
    obtain ⟨M1, R1, a1, a2, a3, a4⟩ := C_sumL (N := N) (D := D) (by omega) (2 * E + 1) 0 N M D (by omega) (by omega) m1 hD rfl (fun x hx => by
      have : x = 0 := by omega
      subst this; rfl) (fun x hx => rfl)
    refine ⟨M1, R1, ?_, a2, fun x hx => ?_, a4⟩
    · show BX1_meetBySlides_15 N (LX1_meetBySlides_15 N f) M 74 _ _ _ = _
      unfold BX1_meetBySlides_15
      simp only [q0, q5, R_size w5, Option.bind_some, List.length_map]
      rw [if_pos (nI_le (Nat.le_refl _) (by omega))]
      exact a1
    · rw [a3 x (by omega), hp x hx]
      unfold metL
      rw [List.countP_eq_length_filter]
  | succ k ih =>
    intro i f M D hk hf m1 m2 m3 hK hD hl hp
    obtain ⟨f, rfl⟩ : ∃ g, f = g + 1 := ⟨f - 1, by omega⟩
    have hi : i < (ctd S a l).length := by omega
    have q0 : gQ M 1 74 0 = some 75 := gQ_ok m1 rfl
    have q5 : gQ M 7 75 5 = some 86 := gQ_ok m2 rfl
    have w5 : Rw M 86 96 ((ctd S a l).map (shn S)) := hK.1.2
    have ei : ((ctd S a l).map (shn S)).getD i 0 = shn S (ctd S a l)[i] := getD_map_shn hi
    have etk : (ctd S a l).take (i + 1) = (ctd S a l).take i ++ [(ctd S a l)[i]] := by rw [← List.take_concat_get hi, List.concat_eq_append]
    obtain ⟨M1, D1, a1, a2, a3, a4, a5⟩ := C_mark (N := N) (r := (ctd S a l)[i]) hI hN hw hE m1 m3 hK hD hl hp
    obtain ⟨M2, R2, b1, b2, b3, b4⟩ := ih (i + 1) f M1 D1 (by omega) (by omega) (by rw [a5.2 _ (by omega)]; exact m1) (by rw [a5.2 _ (by omega)]; exact m2) (by rw [a5.2 _ (by omega)]; exact m3) (hK.of a5 (fun k q => by omega)) a2 a3 (fun x hx => by
      rw [a4 x hx, etk, List.countP_append, List.countP_cons]
      by_cases z : metB S b l w (sd E x) (ctd S a l)[i] = true
      · rw [if_pos z, if_pos z, nI_1]; rfl
      · rw [if_neg z, if_neg z, Int32.add_zero]; rfl)
    refine ⟨M2, R2, ?_, b2, b3, a5.trans b4⟩
    show BX1_meetBySlides_15 N (LX1_meetBySlides_15 N f) M 74 _ _ _ = _
    unfold BX1_meetBySlides_15
    simp only [q0, q5, R_size w5, R_at w5, lg_nI (show i < 2 ^ 31 by omega), ei, a1, Option.bind_some, List.length_map, nI_1]
    rw [if_neg (nI_ge hi (by omega))]
    exact b1
theorem pre_rep (n : Nat) : ∀ x, pre (List.replicate n 0) x = 0 := by
  have g : ∀ y, (List.replicate n (0 : Int32)).getD y 0 = 0 := fun y => by
    rw [List.getD_eq_getElem?_getD, List.getElem?_replicate]
    split <;> rfl
  intro x
  induction x with
  | zero => exact g 0
  | succ x ih =>
    show pre _ x + _ = 0
    rw [ih, g]; decide
theorem RelC.bs {M M' : Mm} {σ : Sg} {ys : List Int32} (h : RelC M σ) (o : Of (fun k => k = 107 ∨ k = 107 + 1) M M') (g : Rw M' 107 802 ys) : RelC M' σ := by
  obtain ⟨⟨h1, h2, h3, h4, h5⟩, h6, ⟨⟨u, v, h7⟩, h8, h9⟩, ⟨j, pl, h10⟩, h11, h12⟩ := h.2.2.2.2.2.2.1
  refine h.scr (o.sm (fun k a b => by omega)) (o.sm (fun k a b => by omega)) (o.dy (fun k q => by omega)) ⟨⟨by rw [o.2 74 (by omega)]; exact h1, h2.mv (o.sm (fun k a b => by omega)), h3.mv (o.sm (fun k a b => by omega)), h4.mv (o.sm (fun k a b => by omega)), ⟨_, g⟩⟩, h6.mv (o.sm (fun k a b => by omega)), ⟨⟨u, v, by rw [o.2 124 (by omega)]; exact h7⟩, h8.mv (o.sm (fun k a b => by omega)), h9.mv (o.sm (fun k a b => by omega))⟩, ⟨j, pl, by rw [o.2 132 (by omega)]; exact h10⟩, h11.mv (o.sm (fun k a b => by omega)), h12.mv (o.sm (fun k a b => by omega))⟩ (by rw [o.1]; exact h.2.2.2.2.2.2.2)
theorem C_mbs {N : Nat} {M : Mm} {σ : Sg} {ab l w : Int32} {E : Nat} (h : RelC M σ) (hI : Ig σ) (hN : 2000 ≤ N) (hK : KpP M (g0 σ) (ab / 10) (rmI ab 10) l) (hw : wi w 0 50) (hE : E ≤ 400) : ∃ M' R, fX1_meetBySlides N M 74 w (nI E) = some M' ∧ RelC M' σ ∧ Rw M' 107 802 R ∧ (∀ x, x ≤ 2 * E → R.getD x 0 = nI (mt (g0 σ) ab l w (sd E x))) ∧ FrC M M' := by
  have la := ctd_len hI.1 (ab / 10) l
  obtain ⟨x5, z5⟩ := h.2.2.2.2.2.2.1.1.2.2.2.2
  obtain ⟨M1, a1, a2, a3⟩ := R_fill' (N := N) z5 0 (c := 2 * E + 2) (by omega) hN
  have t75 := (h.tpA (t := 75) (Or.inl rfl)).1
  have t90 := (h.tpA (t := 90) (Or.inr (Or.inl rfl))).1
  obtain ⟨M2, R2, b1, b2, b3, b4⟩ := C_mbsL (N := N) (a := ab / 10) (b := rmI ab 10) (l := l) hI.1 hN hw hE (ctd (g0 σ) (ab / 10) l).length 0 N M1 _ (by omega) (by omega) (by rw [a3.2 _ (by omega)]; exact h.pr) (by rw [a3.2 _ (by omega)]; exact t75) (by rw [a3.2 _ (by omega)]; exact t90) (hK.of a3 (fun k q => by omega)) a2 (by simp) (fun x hx => by rw [pre_rep]; rfl)
  have o := a3.trans b4
  refine ⟨M2, R2, ?_, h.bs o b2, b2, b3, o.frC (fun k q => by omega)⟩
  have q3 : gQ M 1 74 3 = some 107 := gQ_ok h.pr rfl
  have e : (2 : Int32) * nI E + 2 = nI (2 * E + 2) := by
    rw [show (2 : Int32) * nI E = nI (2 * E) from pk_mul 2 E]; exact nI_add _ 2
  simp only [fX1_meetBySlides, gC_ok h.pr, q3, e, a1, Option.bind_some]
  exact b1
def st1 (g : Int32 → Int32) (b : Int32) (k : Nat) : Int32 := if g b < g (-nI k) then -nI k else b
def st2 (g : Int32 → Int32) (b : Int32) (k : Nat) : Int32 := if g b < g (nI k) then nI k else b
def hrB (g : Int32 → Int32) : Nat → Int32
  | 0 => 0
  | k + 1 => st2 g (st1 g (hrB g k) (k + 1)) (k + 1)
theorem ng_i {k : Nat} (h : k < 2 ^ 30) : (-nI k).toInt = -(k : Int) := by
  rw [Int32.toInt_neg, nI_toInt (by omega)]
  exact Int.bmod_eq_of_le (by omega) (by omega)
theorem st1_b (g : Int32 → Int32) {b : Int32} {k : Nat} (hk : k < 2 ^ 30) (hb : -(k : Int) ≤ b.toInt ∧ b.toInt ≤ k) : -(k : Int) ≤ (st1 g b k).toInt ∧ (st1 g b k).toInt ≤ k := by
  unfold st1
  by_cases z : g b < g (-nI k)
  · rw [if_pos z, ng_i hk]; omega
  · rw [if_neg z]; exact hb
theorem st2_b (g : Int32 → Int32) {b : Int32} {k : Nat} (hk : k < 2 ^ 30) (hb : -(k : Int) ≤ b.toInt ∧ b.toInt ≤ k) : -(k : Int) ≤ (st2 g b k).toInt ∧ (st2 g b k).toInt ≤ k := by
  unfold st2
  by_cases z : g b < g (nI k)
  · rw [if_pos z, nI_toInt (by omega)]; omega
  · rw [if_neg z]; exact hb
theorem hrB_b (g : Int32 → Int32) : ∀ k : Nat, k ≤ 400 → -(k : Int) ≤ (hrB g k).toInt ∧ (hrB g k).toInt ≤ k
  | 0, _ => by show _ ≤ (0 : Int32).toInt ∧ (0 : Int32).toInt ≤ _; decide
  | k + 1, hk => by
    have h := hrB_b g k (by omega)
    exact st2_b g (by omega) (st1_b g (by omega) (by omega))
def hrG (S : St) (ab lw : Int32) (d : Int32) : Int32 := nI (mt S ab (rmI lw 1000) (lw / 1000) d)
abbrev okH (S : St) (ab lw e w : Int32) : Prop := isP S ab ∧ wi lw 0 50999 ∧ wi e 0 400 ∧ wi w 0 1
def sp_hours (σ : Sg) (ab lw e w : Int32) : An := if okH (g0 σ) ab lw e w then (if w = 0 then hrB (hrG (g0 σ) ab lw) e.toNatClampNeg else hrG (g0 σ) ab lw (hrB (hrG (g0 σ) ab lw) e.toNatClampNeg), σ) else er σ 1
theorem I_hours {σ : Sg} (h : Ig σ) (ab lw e w : Int32) : Ig (sp_hours σ ab lw e w).2 := by
  unfold sp_hours
  by_cases g : okH (g0 σ) ab lw e w
  · rw [if_pos g]; exact h
  · rw [if_neg g]; exact h.er 1
theorem C_mS {M : Mm} {σ : Sg} {E : Nat} {R : List Int32} {G : Int32 → Int32} (h : RelC M σ) (hR : Rw M 107 802 R) (hE : E ≤ 400) (hG : ∀ x, x ≤ 2 * E → R.getD x 0 = G (sd E x)) {d : Int32} (hd : -(E : Int) ≤ d.toInt ∧ d.toInt ≤ E) : fX1_metBySlide M 74 d (nI E) = some (G d) := by
  obtain ⟨x, hx⟩ : ∃ x : Nat, d.toInt + E = x := ⟨(d.toInt + E).toNat, by omega⟩
  have eE : (nI E).toInt = (E : Int) := nI_toInt (by omega)
  have e1 : d + nI E = nI x := by
    rw [i_eq, i_add (by omega) (by omega), eE, nI_toInt (by omega)]; exact hx
  have e2 : sd E x = d := by
    rw [i_eq, sd_i hE (by omega)]; omega
  have q3 : gQ M 1 74 3 = some 107 := gQ_ok h.pr rfl
  simp only [fX1_metBySlide, gC_ok h.pr, q3, e1, R_at hR, lg_nI (show x < 2 ^ 31 by omega), hG x (by omega), e2, Option.bind_some]
theorem C_hoursL {N : Nat} {M : Mm} {σ : Sg} {E : Nat} {R : List Int32} {G : Int32 → Int32} {w : Int32} (h : RelC M σ) (hR : Rw M 107 802 R) (hE : E ≤ 400) (hG : ∀ x, x ≤ 2 * E → R.getD x 0 = G (sd E x)) : ∀ (k i f : Nat), i + k = E → k < f → LX10_hours_89 N f M 0 (nI E) w (hrB G i) (nI (i + 1)) = some (if w = 0 then hrB G E else G (hrB G E), M) := by
  intro k
  induction k with
  | zero =>
    intro i f hk hf
    obtain ⟨f, rfl⟩ : ∃ g, f = g + 1 := ⟨f - 1, by omega⟩
    have e : i = E := by omega
    subst e
    have hb := hrB_b G i hE
    show BX10_hours_89 N (LX10_hours_89 N f) M 0 _ _ _ _ = _
    unfold BX10_hours_89
    rw [if_pos (nI_lt (by omega) (by omega))]
    by_cases z : w = 0
    · rw [if_pos z, if_pos z]
    · rw [if_neg z, if_neg z]
      simp only [h.q5, C_mS h hR hE hG hb, Option.bind_some]
  | succ k ih =>
    intro i f hk hf
    obtain ⟨f, rfl⟩ : ∃ g, f = g + 1 := ⟨f - 1, by omega⟩
    have q := ih (i + 1) f (by omega) (by omega)
    have hb := hrB_b G i (by omega)
    have hb1 := st1_b G (b := hrB G i) (k := i + 1) (by omega) (by omega)
    have n1 : (nI (i + 1)).toInt = ((i + 1 : Nat) : Int) := nI_toInt (by omega)
    have n2 : (-nI (i + 1)).toInt = -((i + 1 : Nat) : Int) := ng_i (by omega)
    have J : ∀ s, s = st1 G (hrB G i) (i + 1) → jX10_hours_127 N (LX10_hours_89 N f) M 0 (nI E) w (nI (i + 1)) s = some (if w = 0 then hrB G E else G (hrB G E), M) := by
      intro s hs
      have hsb : -(E : Int) ≤ s.toInt ∧ s.toInt ≤ E := by rw [hs]; omega
      unfold jX10_hours_127
      simp only [h.q5, C_mS h hR hE hG (d := nI (i + 1)) (by omega), C_mS h hR hE hG hsb, Option.bind_some, nI_1]
      rw [show hrB G (i + 1) = st2 G (st1 G (hrB G i) (i + 1)) (i + 1) from rfl, ← hs] at q
      unfold st2 at q
      by_cases z : G s < G (nI (i + 1))
      · rw [if_neg (Int32.not_le.mpr z)]
        rw [if_pos z] at q
        exact q
      · rw [if_pos (Int32.not_lt.mp z)]
        rw [if_neg z] at q
        exact q
    show BX10_hours_89 N (LX10_hours_89 N f) M 0 _ _ _ _ = _
    unfold BX10_hours_89
    rw [if_neg (nI_nlt (by omega) (by omega))]
    simp only [h.q5, C_mS h hR hE hG (d := -nI (i + 1)) (by omega), C_mS h hR hE hG (d := hrB G i) (by omega), Option.bind_some]
    by_cases z : G (hrB G i) < G (-nI (i + 1))
    · rw [if_neg (Int32.not_le.mpr z)]
      exact J _ (by unfold st1; rw [if_pos z])
    · rw [if_pos (Int32.not_lt.mp z)]
      exact J _ (by unfold st1; rw [if_neg z])
theorem lw_n {lw : Int32} (h : wi lw 0 50999) : wi (lw / 1000) 0 50 := by
  obtain ⟨x, hx, rfl⟩ := wi_ix (n := 50999) (by decide) rfl h
  rw [show (1000 : Int32) = nI 1000 from rfl, pk_div (by omega) (by decide) (by decide)]
  rw [wi_i, nI_toInt (by omega), show (0 : Int32).toInt = 0 from by decide, show (50 : Int32).toInt = 50 from by decide]
  omega
theorem C_hours {N : Nat} {M : Mm} {σ : Sg} (h : RelC M σ) (hI : Ig σ) (hN : 2000 ≤ N) (ab lw e w : Int32) : DoC M (fX10_hours N M 0 ab lw e w) (sp_hours σ ab lw e w) := by
  have J := DoC.er h (a := 1) 1 rfl (by decide)
  unfold fX10_hours sp_hours jX10_hours_40
  simp only [h.c, C_isPair h, C_within, Option.bind_some, gd]
  by_cases g : okH (g0 σ) ab lw e w
  · rw [if_pos g, if_pos g.1, if_pos g.2.1, if_pos g.2.2.1, if_pos g.2.2.2]
    obtain ⟨E, hE, rfl⟩ := wi_ix (n := 400) (by decide) rfl g.2.2.1
    rw [nI_clamp (show E < 2 ^ 31 by omega)]
    obtain ⟨M1, a1, a2, a3, a4⟩ := C_hearP (N := N) h hI hN g.1
    obtain ⟨M2, b1, b2, b3, b4, b5⟩ := C_drawP (N := N) a2 hI hN a3 (rmI lw 1000)
    obtain ⟨M3, R, c1, c2, c3, c4, c5⟩ := C_mbs (N := N) b2 hI hN b4 (lw_n g.2.1) hE
    simp only [h.q0, h.q5, a1, a2.q5, b1, b2.q5, c1, Option.bind_some]
    have q := C_hoursL (N := N) (w := w) (G := hrG (g0 σ) ab lw) c2 c3 hE c4 E 0 N (by omega) (by omega)
    exact ⟨M3, q, c2, a4.trans ((b5.frC (fun k q => by omega)).trans c5)⟩
  · rw [if_neg g]
    by_cases g1 : isP (g0 σ) ab
    · rw [if_pos g1]
      by_cases g2 : wi lw 0 50999
      · rw [if_pos g2]
        by_cases g3 : wi e 0 400
        · rw [if_pos g3, if_neg (fun q => g ⟨g1, g2, g3, q⟩)]; exact J
        · rw [if_neg g3]; exact J
      · rw [if_neg g2]; exact J
    · rw [if_neg g1]; exact J
theorem T_hr2 {N : Nat} {K : Mm → Nat → Int32 → Int32 → Int32 → Int32 → Int32 → Int32 → Int32 → Option (Int32 × Mm)} {M : Mm} {F : Nat → Int32} {A : Nat → Nat → Int32} {σ : Sg} (h : TwAt M F A) (r : TwR F A σ) (hd : RdA A (g0 σ) (sr (g0 σ) 2).length) (hI : Ig σ) (hN : 2000 ≤ N) {ab lw e w b : Int32} {k f : Nat} (hk : 1 ≤ k) (hk2 : k ≤ 400) : LX11_hours_88 N K (f + 3) M 137 ab lw e w b (hrG (g0 σ) ab lw b) (nI k) (-nI k) = K M 137 ab lw e w (st2 (hrG (g0 σ) ab lw) (st1 (hrG (g0 σ) ab lw) b k) k) (hrG (g0 σ) ab lw (st2 (hrG (g0 σ) ab lw) (st1 (hrG (g0 σ) ab lw) b k) k)) (nI (k + 1)) := by
  have n1 : (nI k).toInt = (k : Int) := nI_toInt (by omega)
  have n2 : (-nI k).toInt = -(k : Int) := ng_i (by omega)
  have x1 : -nI k + (2 : Int32) * nI k = nI k := by
    rw [show (2 : Int32) * nI k = nI (2 * k) from pk_mul 2 k, i_eq, i_add (by rw [n2, nI_toInt (by omega)]; omega) (by rw [n2, nI_toInt (by omega)]; omega), n2, n1, nI_toInt (by omega)]; omega
  have x2 : nI k + (2 : Int32) * nI k = nI (3 * k) := by
    rw [show (2 : Int32) * nI k = nI (2 * k) from pk_mul 2 k, nI_add]; congr 1; omega
  have s3 : ∀ (b' m' : Int32), LX11_hours_88 N K (f + 1) M 137 ab lw e w b' m' (nI k) (nI (3 * k)) = K M 137 ab lw e w b' m' (nI (k + 1)) := by
    intro b' m'
    show BX11_hours_88 N K (LX11_hours_88 N K f) M 137 _ _ _ _ _ _ _ _ = _
    unfold BX11_hours_88
    rw [if_pos (nI_lt (by omega) (by omega)), nI_1]
  have s2 : ∀ (b' : Int32), LX11_hours_88 N K (f + 2) M 137 ab lw e w b' (hrG (g0 σ) ab lw b') (nI k) (nI k) = K M 137 ab lw e w (st2 (hrG (g0 σ) ab lw) b' k) (hrG (g0 σ) ab lw (st2 (hrG (g0 σ) ab lw) b' k)) (nI (k + 1)) := by
    intro b'
    show BX11_hours_88 N K (LX11_hours_88 N K (f + 1)) M 137 _ _ _ _ _ _ _ _ = _
    unfold BX11_hours_88
    rw [if_neg (Int32.lt_irrefl), T_met h r hd hI hN]
    simp only [Option.bind_some, jX11_hours_132, x2]
    unfold st2
    show (if hrG (g0 σ) ab lw b' < hrG (g0 σ) ab lw (nI k) then _ else _) = _
    by_cases z : hrG (g0 σ) ab lw b' < hrG (g0 σ) ab lw (nI k)
    · rw [if_pos z, if_pos z]
      exact s3 _ _
    · rw [if_neg z, if_neg z]
      exact s3 _ _
  show BX11_hours_88 N K (LX11_hours_88 N K (f + 2)) M 137 _ _ _ _ _ _ _ _ = _
  unfold BX11_hours_88
  rw [if_neg (by rw [i_lt, n1, n2]; omega), T_met h r hd hI hN]
  simp only [Option.bind_some, jX11_hours_132, x1]
  show (if hrG (g0 σ) ab lw b < hrG (g0 σ) ab lw (-nI k) then _ else _) = _
  by_cases z : hrG (g0 σ) ab lw b < hrG (g0 σ) ab lw (-nI k)
  · rw [if_pos z, show st1 (hrG (g0 σ) ab lw) b k = -nI k from if_pos z]
    exact s2 _
  · rw [if_neg z, show st1 (hrG (g0 σ) ab lw) b k = b from if_neg z]
    exact s2 _
theorem T_hoursL {N : Nat} {M : Mm} {F : Nat → Int32} {A : Nat → Nat → Int32} {σ : Sg} (h : TwAt M F A) (r : TwR F A σ) (hd : RdA A (g0 σ) (sr (g0 σ) 2).length) (hI : Ig σ) (hN : 2000 ≤ N) {ab lw w : Int32} {E : Nat} (hE : E ≤ 400) : ∀ (k i f : Nat), i + k = E → k < f → LX11_hours_77 N f M 137 ab lw (nI E) w (hrB (hrG (g0 σ) ab lw) i) (hrG (g0 σ) ab lw (hrB (hrG (g0 σ) ab lw) i)) (nI (i + 1)) = some (if w = 0 then hrB (hrG (g0 σ) ab lw) E else hrG (g0 σ) ab lw (hrB (hrG (g0 σ) ab lw) E), M) := by
  intro k
  induction k with
  | zero =>
    intro i f hk hf
    obtain ⟨f, rfl⟩ : ∃ g, f = g + 1 := ⟨f - 1, by omega⟩
    have e : i = E := by omega
    subst e
    show BX11_hours_77 N (LX11_hours_77 N f) M 137 _ _ _ _ _ _ _ = _
    unfold BX11_hours_77
    rw [if_pos (nI_lt (by omega) (by omega))]
    by_cases z : w = 0
    · rw [if_pos z, if_pos z]
    · rw [if_neg z, if_neg z]
  | succ k ih =>
    intro i f hk hf
    obtain ⟨f, rfl⟩ : ∃ g, f = g + 1 := ⟨f - 1, by omega⟩
    have q := ih (i + 1) f (by omega) (by omega)
    obtain ⟨n, hn⟩ : ∃ n, N = n + 3 := ⟨N - 3, by omega⟩
    have w1 := T_hr2 (N := N) (K := LX11_hours_77 N f) h r hd hI hN (ab := ab) (lw := lw) (e := nI E) (w := w) (b := hrB (hrG (g0 σ) ab lw) i) (k := i + 1) (f := n) (by omega) (by omega)
    rw [← hn] at w1
    show BX11_hours_77 N (LX11_hours_77 N f) M 137 _ _ _ _ _ _ _ = _
    unfold BX11_hours_77
    rw [if_neg (nI_nlt (by omega) (by omega))]
    exact w1.trans q
theorem T_hours {N : Nat} {M : Mm} {σ : Sg} (h : RelT M σ) (hI : Ig σ) (hN : 2000 ≤ N) (ab lw e w : Int32) : DoT M (fX11_hours N M 137 ab lw e w) (sp_hours σ ab lw e w) := by
  obtain ⟨F, A, k1, k2⟩ := id h
  have J := DoT.er h hI.2.2.1 (a := 1) 1 rfl (by decide)
  unfold fX11_hours sp_hours jX11_hours_43
  simp only [T_c k1, T_isPair k1 k2, show fX11_in M lw.toInt64 0 50999 = some (if wi lw 0 50999 then 1 else 0) from T_in M (a := 0) (b := 50999) (by decide) (by decide), show fX11_in M e.toInt64 0 400 = some (if wi e 0 400 then 1 else 0) from T_in M (a := 0) (b := 400) (by decide) (by decide), show fX11_in M w.toInt64 0 1 = some (if wi w 0 1 then 1 else 0) from T_in M (a := 0) (b := 1) (by decide) (by decide), Option.bind_some, gd]
  by_cases g : okH (g0 σ) ab lw e w
  · rw [if_pos g, if_pos g.1, if_pos g.2.1, if_pos g.2.2.1, if_pos g.2.2.2]
    obtain ⟨E, hE, rfl⟩ := wi_ix (n := 400) (by decide) rfl g.2.2.1
    rw [nI_clamp (show E < 2 ^ 31 by omega)]
    obtain ⟨M1, F1, A1, a1, a2, a3, a4, a5⟩ := T_readAll (N := N) h hI hN
    simp only [a1, T_met a2 a3 a4 hI hN, Option.bind_some]
    have q := T_hoursL (N := N) a2 a3 a4 hI hN (ab := ab) (lw := lw) (w := w) hE E 0 N (by omega) (by omega)
    exact ⟨M1, q, ⟨F1, A1, a2, a3⟩, a5⟩
  · rw [if_neg g]
    by_cases g1 : isP (g0 σ) ab
    · rw [if_pos g1]
      by_cases g2 : wi lw 0 50999
      · rw [if_pos g2]
        by_cases g3 : wi e 0 400
        · rw [if_pos g3, if_neg (fun q => g ⟨g1, g2, g3, q⟩)]; exact J
        · rw [if_neg g3]; exact J
      · rw [if_neg g2]; exact J
    · rw [if_neg g1]; exact J
