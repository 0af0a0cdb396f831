/-! hours: meets by all slides -/
def pre (D : List Int32) : Nat → Int32
  | 0 => D.getD 0 0
  | x + 1 => pre D x + D.getD (x + 1) 0
theorem add_r (a b c : Int32) : a + b + c = a + c + b := by rw [Int32.add_assoc, Int32.add_comm b c, ← Int32.add_assoc]
theorem pre_set {D : List Int32} {i : Nat} {v : Int32} (hi : i < D.length) : ∀ x, pre (D.set i (D.getD i 0 + v)) x = pre D x + if i ≤ x then v else 0
  | 0 => by
    show (D.set i (D.getD i 0 + v)).getD 0 0 = D.getD 0 0 + _
    rw [getD_set hi]
    by_cases e : 0 = i
    · subst e
      rw [if_pos rfl, if_pos (Nat.le_refl _)]
    · rw [if_neg e, if_neg (by omega), Int32.add_zero]
  | x + 1 => by
    have h := pre_set hi (v := v) x
    show pre (D.set i (D.getD i 0 + v)) x + (D.set i (D.getD i 0 + v)).getD (x + 1) 0 = pre D x + D.getD (x + 1) 0 + _
    rw [h, getD_set hi]
    by_cases e : x + 1 = i
    · subst e
      rw [if_pos rfl, if_neg (by omega), if_pos (Nat.le_refl _), Int32.add_zero, Int32.add_assoc]
    · rw [if_neg e]
      by_cases z : i ≤ x
      · rw [if_pos z, if_pos (by omega), add_r]
      · rw [if_neg z, if_neg (by omega), Int32.add_zero, Int32.add_zero]
/-- whether one of the others from place p on is near, slid by d -/
def covB (S : St) (L : List Nat) (t w d : Int) (p : Nat) : Bool := (L.drop p).any (fun o => decide (t - d - w ≤ (shn S o).toInt ∧ (shn S o).toInt ≤ t - d + w))
theorem covB_s {S : St} {L : List Nat} {t w d : Int} {p : Nat} (hp : p < L.length) : covB S L t w d p = (decide (t - d - w ≤ (shn S L[p]).toInt ∧ (shn S L[p]).toInt ≤ t - d + w) || covB S L t w d (p + 1)) := by
  unfold covB
  rw [List.drop_eq_getElem_cons hp, List.any_cons]
theorem C_min (M : Mm) (a b : Int32) : fJ9_min_7cf53 M a b = some (if b < a then b else a) := by
  unfold fJ9_min_7cf53
  by_cases h : b < a
  · rw [if_pos h, if_pos h]
  · rw [if_neg h, if_neg h]
def mkI (S : St) (L : List Nat) (t w : Int) (E : Nat) (base : Nat → Int32) (p : Nat) (nx : Int) (D : List Int32) : Prop := D.length = 2 * E + 2 ∧ (-(E : Int) ≤ nx ∧ nx ≤ E + 1) ∧ (∀ d : Int, -(E : Int) ≤ d → d ≤ E → covB S L t w d p = true → d < nx) ∧ (∀ x : Nat, x ≤ 2 * E → pre D x = base x + if covB S L t w ((x : Int) - E) p = true then 1 else 0) ∧ ∀ d : Int, -(E : Int) ≤ d → d < nx → ∀ y, ∀ hy : y < L.length, y < p → t - (shn S L[y]).toInt - w ≤ d → covB S L t w d p = true
theorem C_markL {N : Nat} {S : St} {b l w t : Int32} {E : Nat} {base : Nat → Int32} (hI : Iv S) (hw : wi w 0 50) (hE : E ≤ 400) (ht : -999 ≤ t.toInt ∧ t.toInt ≤ 10998) : ∀ (p f : Nat) (M : Mm) (nx : Int32) (D : List Int32), p ≤ (ctd S b l).length → p < f → M[74]? = some (.inr (1, [.ref 75, .ref 90, .ref 105, .ref 107])) → M[90]? = some (.inr (7, tpF 90)) → Rw M 101 96 ((ctd S b l).map (shn S)) → Rw M 107 802 D → mkI S (ctd S b l) t.toInt w.toInt E base p nx.toInt D → ∃ M' D', LX1_markSlides_18 N f M 74 t w (nI E) nx (nI p - 1) = some M' ∧ Rw M' 107 802 D' ∧ D'.length = 2 * E + 2 ∧ (∀ x : Nat, x ≤ 2 * E → pre D' x = base x + if covB S (ctd S b l) t.toInt w.toInt ((x : Int) - E) 0 = true then 1 else 0) ∧ Of (fun k => k = 107 ∨ k = 107 + 1) M M' := by
  have lb := ctd_len hI b l
  obtain ⟨w0, w1, -⟩ := w_i hw
  intro p
  induction p with
  | zero =>
    intro f M nx D hp hf m1 m2 hR hD hK
    obtain ⟨f, rfl⟩ : ∃ g, f = g + 1 := ⟨f - 1, by omega⟩
    refine ⟨M, D, ?_, hD, hK.1, hK.2.2.2.1, Of.rf⟩
    show BX1_markSlides_18 N (LX1_markSlides_18 N f) M 74 _ _ _ _ _ = _
    unfold BX1_markSlides_18
    rw [if_pos (by decide)]
  | succ p ih =>
    intro f M nx D hp hf m1 m2 hR hD hK
    obtain ⟨f, rfl⟩ : ∃ g, f = g + 1 := ⟨f - 1, by omega⟩
    obtain ⟨K1, ⟨K2, K3⟩, K4, K5, K6⟩ := hK
    have hpl : p < (ctd S b l).length := by omega
    have q1 : gQ M 1 74 1 = some 90 := gQ_ok m1 rfl
    have q3 : gQ M 1 74 3 = some 107 := gQ_ok m1 rfl
    have q5 : gQ M 7 90 5 = some 101 := gQ_ok m2 rfl
    have ep : nI (p + 1) - 1 = nI p := nI_pred p
    have em : nI p + -1 = nI p - 1 := (Int32.sub_eq_add_neg _ _).symm
    have eo : ((ctd S b l).map (shn S)).getD p 0 = shn S (ctd S b l)[p] := getD_map_shn hpl
    have cs := fun d => covB_s (S := S) (t := t.toInt) (w := w.toInt) (d := d) hpl
    have ho := hI.shB (ctd S b l)[p]
    have ord : ∀ y, ∀ hy : y < (ctd S b l).length, y < p → (shn S (ctd S b l)[y]).toInt ≤ (shn S (ctd S b l)[p]).toInt := fun y hy hlt => ctd_le hI hy hpl (by omega)
    generalize ho_ : shn S (ctd S b l)[p] = o at *
    have s1 : (t - o).toInt = t.toInt - o.toInt := i_sub (by omega) (by omega)
    have s2 : (t - o - w).toInt = t.toInt - o.toInt - w.toInt := by rw [i_sub (by omega) (by omega), s1]
    have s3 : (t - o + w).toInt = t.toInt - o.toInt + w.toInt := by rw [i_add (by omega) (by omega), s1]
    have eE : (nI E).toInt = (E : Int) := nI_toInt (by omega)
    have fr : (mx nx (t - o - w)).toInt = if nx.toInt < t.toInt - o.toInt - w.toInt then t.toInt - o.toInt - w.toInt else nx.toInt := by
      unfold mx
      by_cases z : nx < t - o - w
      · rw [if_pos z]; rw [i_lt, s2] at z; rw [if_pos z, s2]
      · rw [if_neg z]; rw [i_lt, s2] at z; rw [if_neg z]
    have tt : (if (t - o + w) < nI E then t - o + w else nI E).toInt = if t.toInt - o.toInt + w.toInt < E then t.toInt - o.toInt + w.toInt else E := by
      by_cases z : (t - o + w) < nI E
      · rw [if_pos z]; rw [i_lt, s3, eE] at z; rw [if_pos z, s3]
      · rw [if_neg z]; rw [i_lt, s3, eE] at z; rw [if_neg z, eE]
    have B : LX1_markSlides_18 N (f + 1) M 74 t w (nI E) nx (nI (p + 1) - 1) = if (if (t - o + w) < nI E then t - o + w else nI E) < mx nx (t - o - w) then LX1_markSlides_18 N f M 74 t w (nI E) nx (nI p - 1) else ((fX3_raise M 107 (mx nx (t - o - w) + nI E) 1).bind fun M16 => (gQ M16 1 74 3).bind fun q19 => (fX3_raise M16 q19 ((if (t - o + w) < nI E then t - o + w else nI E) + 1 + nI E) (-1)).bind fun M22 => LX1_markSlides_18 N f M22 74 t w (nI E) ((if (t - o + w) < nI E then t - o + w else nI E) + 1) (nI p - 1)) := by
      show BX1_markSlides_18 N (LX1_markSlides_18 N f) M 74 _ _ _ _ _ = _
      unfold BX1_markSlides_18
      rw [ep, if_neg (nI_pos (by omega))]
      simp only [q1, q3, q5, R_at hR, lg_nI (show p < 2 ^ 31 by omega), eo, C_max, C_min, em, Option.bind_some]
    rw [B]
    generalize hfr : mx nx (t - o - w) = fro at fr ⊢
    generalize hto : (if (t - o + w) < nI E then t - o + w else nI E) = to at tt ⊢
    have fr2 : nx.toInt ≤ fro.toInt ∧ t.toInt - o.toInt - w.toInt ≤ fro.toInt ∧ (fro.toInt = nx.toInt ∨ fro.toInt = t.toInt - o.toInt - w.toInt) := by
      rw [fr]; split <;> omega
    have tt2 : to.toInt ≤ t.toInt - o.toInt + w.toInt ∧ to.toInt ≤ E ∧ (to.toInt = t.toInt - o.toInt + w.toInt ∨ to.toInt = E) := by
      rw [tt]; split <;> omega
    by_cases z : to < fro
    · rw [if_pos z]
      rw [i_lt] at z
      have cq : ∀ d : Int, -(E : Int) ≤ d → d ≤ E → covB S (ctd S b l) t.toInt w.toInt d p = covB S (ctd S b l) t.toInt w.toInt d (p + 1) := by
        intro d d1 d2
        rw [cs d]
        cases hc : covB S (ctd S b l) t.toInt w.toInt d (p + 1) with
        | true => rw [Bool.or_true]
        | false =>
          rw [Bool.or_false]
          refine decide_eq_false (fun q => ?_)
          by_cases v : d < nx.toInt
          · have := K6 d d1 v p hpl (by omega) (by rw [ho_]; omega)
            rw [hc] at this; cases this
          · omega
      refine ih f M nx D (by omega) (by omega) m1 m2 hR hD ⟨K1, ⟨K2, K3⟩, fun d d1 d2 hc => K4 d d1 d2 (by rw [← cq d d1 d2]; exact hc), fun x hx => ?_, fun d d1 d2 y hy hlt hle => ?_⟩
      · rw [cq _ (by omega) (by omega)]; exact K5 x hx
      · rw [cq d d1 (by omega)]; exact K6 d d1 d2 y hy (by omega) hle
    · rw [if_neg z]
      rw [i_lt] at z
      obtain ⟨u, hu⟩ : ∃ u : Nat, fro.toInt + E = u := ⟨(fro.toInt + E).toNat, by omega⟩
      obtain ⟨v, hv⟩ : ∃ v : Nat, to.toInt + 1 + E = v := ⟨(to.toInt + 1 + E).toNat, by omega⟩
      have eu : fro + nI E = nI u := by
        rw [i_eq, i_add (by omega) (by omega), eE, nI_toInt (by omega)]; exact hu
      have t1 : (to + 1).toInt = to.toInt + 1 := i_add (by rw [show (1 : Int32).toInt = 1 from by decide]; omega) (by rw [show (1 : Int32).toInt = 1 from by decide]; omega)
      have ev : to + 1 + nI E = nI v := by
        rw [i_eq, i_add (by omega) (by omega), t1, eE, nI_toInt (by omega)]; exact hv
      obtain ⟨M1, a1, a2, a3⟩ := R_raise hD (j := u) (by omega) 1
      obtain ⟨M2, b1, b2, b3⟩ := R_raise a2 (j := v) (by rw [List.length_set]; omega) (-1)
      have m1' : M1[74]? = some (.inr (1, [.ref 75, .ref 90, .ref 105, .ref 107])) := by rw [a3.2 _ (by omega)]; exact m1
      have q3' : gQ M1 1 74 3 = some 107 := gQ_ok m1' rfl
      have cn : ∀ d : Int, -(E : Int) ≤ d → d ≤ E → (covB S (ctd S b l) t.toInt w.toInt d (p + 1) = true → d < fro.toInt) ∧ (covB S (ctd S b l) t.toInt w.toInt d (p + 1) = false → ((t.toInt - d - w.toInt ≤ o.toInt ∧ o.toInt ≤ t.toInt - d + w.toInt) ↔ (fro.toInt ≤ d ∧ d ≤ to.toInt))) := by
        intro d d1 d2
        refine ⟨fun hc => by have := K4 d d1 d2 hc; omega, fun hc => ?_⟩
        constructor
        · intro q
          by_cases y : d < nx.toInt
          · have := K6 d d1 y p hpl (by omega) (by rw [ho_]; omega)
            rw [hc] at this; cases this
          · omega
        · intro q; omega
      have pr : ∀ x, x ≤ 2 * E → pre ((D.set u (D.getD u 0 + 1)).set v ((D.set u (D.getD u 0 + 1)).getD v 0 + -1)) x = base x + if covB S (ctd S b l) t.toInt w.toInt ((x : Int) - E) p = true then 1 else 0 := by
        intro x hx
        rw [pre_set (by rw [List.length_set]; omega), pre_set (by omega), K5 x hx, cs]
        obtain ⟨c1, c2⟩ := cn ((x : Int) - E) (by omega) (by omega)
        cases hc : covB S (ctd S b l) t.toInt w.toInt ((x : Int) - E) (p + 1) with
        | true =>
          have := c1 hc
          rw [Bool.or_true, if_pos rfl, if_neg (by omega), if_neg (by omega), Int32.add_zero, Int32.add_zero]
        | false =>
          have c2' := c2 hc
          rw [Bool.or_false, if_neg (by decide), Int32.add_zero]
          by_cases y : fro.toInt ≤ (x : Int) - E ∧ (x : Int) - E ≤ to.toInt
          · rw [if_pos (by omega), if_neg (by omega), if_pos (decide_eq_true (c2'.mpr y)), Int32.add_zero]
          · rw [if_neg (fun q => y (c2'.mp (of_decide_eq_true q)))]
            by_cases y2 : u ≤ x
            · rw [if_pos y2, if_pos (by omega), Int32.add_zero, Int32.add_assoc, show (1 : Int32) + -1 = 0 from by decide, Int32.add_zero]
            · rw [if_neg y2, if_neg (by omega), Int32.add_zero, Int32.add_zero]
      obtain ⟨M3, D3, c1, c2, c3, c4, c5⟩ := ih f M2 (to + 1) _ (by omega) (by omega) (by rw [b3.2 _ (by omega)]; exact m1') (by rw [b3.2 _ (by omega), a3.2 _ (by omega)]; exact m2) ((hR.of a3 (by omega) (by omega)).of b3 (by omega) (by omega)) b2 ⟨by rw [List.length_set, List.length_set]; exact K1, ⟨by omega, by omega⟩, fun d d1 d2 hc => by
          rw [cs d, Bool.or_eq_true] at hc
          rcases hc with hc | hc
          · have := of_decide_eq_true hc; omega
          · have := (cn d d1 d2).1 hc; omega, pr, fun d d1 d2 y hy hlt hle => by
          rw [cs d, decide_eq_true, Bool.true_or]
          have := ord y hy hlt
          omega⟩
      refine ⟨M3, D3, ?_, c2, c3, c4, (a3.trans b3).trans c5⟩
      rw [eu, a1]
      simp only [q3', Option.bind_some]
      rw [ev, b1]
      exact c1
