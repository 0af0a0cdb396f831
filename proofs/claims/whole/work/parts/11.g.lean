/-! the tape is heard -/
def wyO (S : St) (bar : Int32) : Option (List Int32) := sx S (lg (sr S 1) bar).toNatClampNeg
def wy (S : St) (r : Nat) : Int32 := match wyO S ((sr S 2).getD r 0) with
  | none => 1
  | some code => ev ((sr S 4).getD r 0) (gap S r) (fmd (shn S r) 240) ((sr S 2).getD r 0) code
theorem Rx.of {P : Nat → Prop} {M M' : Mm} {a cap : Nat} (h : Rx M a cap) (o : Of P M M') (h0 : ¬ P a) (h1 : ¬ P (a + 1)) : Rx M' a cap := ⟨h.choose, h.choose_spec.of o h0 h1⟩
def tpt (t : Nat) : Prop := t = 75 ∨ t = 90 ∨ t = 109
theorem RelC.tpA {M : Mm} {σ : Sg} (h : RelC M σ) {t : Nat} (ht : tpt t) : TapeAt M t := by
  rcases ht with rfl | rfl | rfl
  · exact h.2.2.2.2.2.2.1.1.2.1
  · exact h.2.2.2.2.2.2.1.1.2.2.1
  · exact h.2.2.2.2.2.2.1.2.1
theorem RelC.tapeX {M M' : Mm} {σ : Sg} (h : RelC M σ) {t : Nat} (ht : tpt t) (o : Of (fun k => t ≤ k ∧ k < t + 15) M M') (g : TapeAt M' t) : RelC M' σ := by
  obtain ⟨⟨h1, h2, h3, h4, h5⟩, h6, ⟨⟨u, v, h7⟩, h8, h9⟩, ⟨j, pl, h10⟩, h11, h12⟩ := h.2.2.2.2.2.2.1
  have ht' := ht
  rcases ht with rfl | rfl | rfl
  · refine h.scr (o.sm (fun k a b => by omega)) (o.sm (fun k a b => by omega)) (o.dy (fun k q => by omega)) ⟨⟨by rw [o.2 74 (by omega)]; exact h1, g, h3.mv (o.sm (fun k a b => by omega)), h4.mv (o.sm (fun k a b => by omega)), h5.mv (o.sm (fun k a b => by omega))⟩, h6.mv (o.sm (fun k a b => by omega)), ⟨⟨u, v, by rw [o.2 124 (by omega)]; exact h7⟩, h8.mv (o.sm (fun k a b => by omega)), h9.mv (o.sm (fun k a b => by omega))⟩, ⟨j, pl, by rw [o.2 132 (by omega)]; exact h10⟩, h11.mv (o.sm (fun k a b => by omega)), h12.mv (o.sm (fun k a b => by omega))⟩ (by rw [o.1]; exact h.2.2.2.2.2.2.2)
  · refine h.scr (o.sm (fun k a b => by omega)) (o.sm (fun k a b => by omega)) (o.dy (fun k q => by omega)) ⟨⟨by rw [o.2 74 (by omega)]; exact h1, h2.mv (o.sm (fun k a b => by omega)), g, h4.mv (o.sm (fun k a b => by omega)), h5.mv (o.sm (fun k a b => by omega))⟩, h6.mv (o.sm (fun k a b => by omega)), ⟨⟨u, v, by rw [o.2 124 (by omega)]; exact h7⟩, h8.mv (o.sm (fun k a b => by omega)), h9.mv (o.sm (fun k a b => by omega))⟩, ⟨j, pl, by rw [o.2 132 (by omega)]; exact h10⟩, h11.mv (o.sm (fun k a b => by omega)), h12.mv (o.sm (fun k a b => by omega))⟩ (by rw [o.1]; exact h.2.2.2.2.2.2.2)
  · exact h.tape o g
def Out (t : Nat) (M M' : Mm) : Prop := ∀ k, k < 153 → ¬ (t ≤ k ∧ k < t + 15) → M'[k]? = M[k]?
theorem Out.rf {t : Nat} {M : Mm} : Out t M M := fun _ _ _ => rfl
theorem Out.trans {t : Nat} {M M1 M2 : Mm} (h : Out t M M1) (g : Out t M1 M2) : Out t M M2 := fun k a b => (g k a b).trans (h k a b)
theorem Of.out {P : Nat → Prop} {M M' : Mm} {t : Nat} (o : Of P M M') (g : ∀ k, P k → t ≤ k ∧ k < t + 15) : Out t M M' := fun k a b => o.2 k (fun q => b (g k q))
def HrT (M : Mm) (t : Nat) (S : St) (T : List Nat) : Prop := TpT M t S T ∧ Rw M (t + 7) 96 (T.map (wy S))
theorem TpT.of {P : Nat → Prop} {M M' : Mm} {t : Nat} {S : St} {T : List Nat} (h : TpT M t S T) (o : Of P M M') (g : ∀ k, t ≤ k → k < t + 7 → ¬ P k) : TpT M' t S T := by
  obtain ⟨h0, h1, h2, h3, h4⟩ := h
  exact ⟨by rw [o.2 _ (g _ (by omega) (by omega))]; exact h0, h1.of o (g _ (by omega) (by omega)) (g _ (by omega) (by omega)), h2.of o (g _ (by omega) (by omega)) (g _ (by omega) (by omega)), h3.of o (g _ (by omega) (by omega)) (g _ (by omega) (by omega)), h4⟩
theorem C_textOf {M : Mm} {σ : Sg} (h : RelC M σ) {u : Nat} (hu : u < 9) : ∃ o, fX6_textOf M 1 (nI u) = some o ∧ TxO M o (sx (g0 σ) u) := by
  obtain ⟨f, s1, s2⟩ := h.2.1.2.2.1
  have q6 : gQ M 6 1 6 = some (1 + 13) := gQ_ok h.2.1.1 rfl
  refine ⟨f u, ?_, s2 u hu⟩
  simp only [fX6_textOf, h.2.1.c, q6, aL_ok s1 (by decide), aR_ok s1 hu (by decide), Option.bind_some]
  rw [if_neg (nI_pos (by omega)), if_neg (nI_ge hu (by decide))]
theorem C_hearL {N : Nat} {σ : Sg} {t b : Nat} {x3 : Option Nat} (hI : Ig σ) (ht : tpt t) (hN : 2000 ≤ N) (hb : b < 6) : ∀ (k i f : Nat) (M : Mm), i + k = (tape (g0 σ) (nI b)).length → k < f → RelC M σ → TpT M t (g0 σ) (tape (g0 σ) (nI b)) → Rw M (t + 7) 96 (((tape (g0 σ) (nI b)).take i).map (wy (g0 σ))) → TxO M x3 (wyO (g0 σ) (nI b)) → ∃ M', LX7_hear_29 N f M t (nI b) x3 (nI i) = some M' ∧ RelC M' σ ∧ HrT M' t (g0 σ) (tape (g0 σ) (nI b)) ∧ FrC M M' ∧ Out t M M' := by
  have hl : (sr (g0 σ) 2).length ≤ 96 := hI.1.L 2 (by decide)
  have hT := tape_len (g0 σ) (nI b)
  have t1 : 75 ≤ t ∧ t + 15 ≤ 124 := by rcases ht with rfl | rfl | rfl <;> decide
  intro k
  induction k with
  | zero =>
    intro i f M hk hf h h1 h2 h3
    obtain ⟨f, rfl⟩ : ∃ g, f = g + 1 := ⟨f - 1, by omega⟩
    have e : i = (tape (g0 σ) (nI b)).length := by omega
    subst e
    have q0 : gQ M 7 t 0 = some (t + 1) := gQ_ok h1.1 rfl
    refine ⟨M, ?_, h, ⟨h1, by rw [List.take_length] at h2; exact h2⟩, FrC.rf, Out.rf⟩
    show BX7_hear_29 N (LX7_hear_29 N f) M t _ _ _ = _
    unfold BX7_hear_29
    simp only [q0, R_size h1.2.1, Option.bind_some, List.length_map]
    rw [if_pos (nI_le (Nat.le_refl _) (by omega))]
  | succ k ih =>
    intro i f M hk hf h h1 h2 h3
    obtain ⟨f, rfl⟩ : ∃ g, f = g + 1 := ⟨f - 1, by omega⟩
    have hi : i < (tape (g0 σ) (nI b)).length := by omega
    have hg : (tape (g0 σ) (nI b))[i]? = some (tape (g0 σ) (nI b))[i] := List.getElem?_eq_getElem hi
    have q0 : gQ M 7 t 0 = some (t + 1) := gQ_ok h1.1 rfl
    have q1 : gQ M 7 t 1 = some (t + 3) := gQ_ok h1.1 rfl
    have q2 : gQ M 7 t 2 = some (t + 5) := gQ_ok h1.1 rfl
    have q3 : gQ M 7 t 3 = some (t + 7) := gQ_ok h1.1 rfl
    generalize hr : (tape (g0 σ) (nI b))[i] = r at hg
    have hrb := mem_tape.mp (List.mem_of_getElem? hg)
    have ew : wy (g0 σ) r = match wyO (g0 σ) (nI b) with
      | none => 1
      | some code => ev ((sr (g0 σ) 4).getD r 0) (gap (g0 σ) r) (fmd (shn (g0 σ) r) 240) (nI b) code := by
      unfold wy
      rw [hrb.2]
    have etk : ((tape (g0 σ) (nI b)).take (i + 1)).map (wy (g0 σ)) = ((tape (g0 σ) (nI b)).take i).map (wy (g0 σ)) ++ [wy (g0 σ) r] := by
      rw [← List.take_concat_get hi, hr, List.concat_eq_append, List.map_append]; rfl
    have fin : ∀ M1, RelC M1 σ → TpT M1 t (g0 σ) (tape (g0 σ) (nI b)) → Rw M1 (t + 7) 96 (((tape (g0 σ) (nI b)).take i).map (wy (g0 σ))) → TxO M1 x3 (wyO (g0 σ) (nI b)) → FrC M M1 → Out t M M1 → ∃ M', (bd2 (fX3_add M1 (t + 7) (wy (g0 σ) r)) fun v2 M3 => LX7_hear_29 N f M3 t (nI b) x3 (nI i + 1)) = some M' ∧ RelC M' σ ∧ HrT M' t (g0 σ) (tape (g0 σ) (nI b)) ∧ FrC M M' ∧ Out t M M' := by
      intro M1 g g1 g2 g3 g4 g5
      obtain ⟨M2, a1, a2, a3⟩ := R_add g2 (wy (g0 σ) r) (by simp; omega)
      have tA := g.tpA ht
      have tA2 : TapeAt M2 t := by
        obtain ⟨z0, z1, z2, z3, z4, z5, z6, z7⟩ := tA
        exact ⟨by rw [a3.2 _ (by omega)]; exact z0, z1.of a3 (by omega) (by omega), z2.of a3 (by omega) (by omega), z3.of a3 (by omega) (by omega), ⟨_, a2⟩, z5.of a3 (by omega) (by omega), z6.of a3 (by omega) (by omega), z7.of a3 (by omega) (by omega)⟩
      rw [← etk] at a2
      obtain ⟨M3, b1, b2, b3, b4, b5⟩ := ih (i + 1) f M2 (by omega) (by omega) (g.tapeX ht (a3.mono (fun k q => by omega)) tA2) (g1.of a3 (fun k x y => by omega)) a2 (g3.mv (a3.dy (fun k q => by omega)))
      refine ⟨M3, ?_, b2, b3, g4.trans ((a3.frC (fun k q => by omega)).trans b4), g5.trans ((a3.out (fun k q => by omega)).trans b5)⟩
      rw [a1, bd2_s, nI_1]
      exact b1
    show ∃ M', BX7_hear_29 N (LX7_hear_29 N f) M t _ _ _ = _ ∧ _
    unfold BX7_hear_29
    simp only [q0, q1, q2, q3, R_size h1.2.1, Option.bind_some, List.length_map, jX7_hear_88]
    rw [if_neg (nI_ge hi (by omega))]
    cases hw : wyO (g0 σ) (nI b) with
    | none =>
      rw [hw] at h3 ew
      have e3 : x3 = none := h3
      have F := fin M h h1 h2 (by rw [hw]; exact h3) FrC.rf Out.rf
      rw [e3] at F ⊢
      rw [show wy (g0 σ) r = 1 from ew] at F
      exact F
    | some code =>
      rw [hw] at h3 ew
      obtain ⟨q, e3, hq⟩ := h3
      have eh : ((tape (g0 σ) (nI b)).map (fun r => (sr (g0 σ) 4).getD r 0)).getD i 0 = (sr (g0 σ) 4).getD r 0 := by
        rw [List.getD_eq_getElem?_getD, List.getElem?_map, hg]; rfl
      have es : ((tape (g0 σ) (nI b)).map (shn (g0 σ))).getD i 0 = shn (g0 σ) r := by
        rw [List.getD_eq_getElem?_getD, List.getElem?_map, hg]; rfl
      obtain ⟨M1, ys, v1, v2, v3⟩ := C_value (N := N) hq hN ((sr (g0 σ) 4).getD r 0) (gap (g0 σ) r) (fmd (shn (g0 σ) r) 240) (nI b)
      obtain ⟨w1, w2, w3⟩ := h.val hq v2 v3
      have hq0 := hq.1
      have dy := Dy.val hq v2 v3
      have F := fin M1 w1 (h1.of v3 (fun k x y => by omega)) (h2.of v3 (by omega) (by omega)) (by rw [hw]; exact ⟨q, e3, dy.1 _ _ hq⟩) w2 (fun k a c => w3 k (by omega) a)
      rw [e3] at F ⊢
      show ∃ M', ((fX3_at M (t + 5) (nI i)).bind _) = _ ∧ _
      rw [R_at h1.2.2.2.1, lg_nI (by omega), eh]
      simp only [Option.bind_some]
      rw [C_gapAt hI.1 h1 hg]
      simp only [Option.bind_some]
      rw [R_at h1.2.2.1, lg_nI (by omega), es]
      simp only [Option.bind_some]
      rw [C_floorMod M (by decide)]
      simp only [Option.bind_some]
      rw [v1, bd2_s]
      rw [show wy (g0 σ) r = ev ((sr (g0 σ) 4).getD r 0) (gap (g0 σ) r) (fmd (shn (g0 σ) r) 240) (nI b) code from ew] at F
      exact F
theorem C_hear {N : Nat} {M : Mm} {σ : Sg} {t b : Nat} (h : RelC M σ) (hI : Ig σ) (ht : tpt t) (hN : 2000 ≤ N) (hb : b < (sr (g0 σ) 1).length) : ∃ M', fX7_hear N M t 1 (nI b) = some M' ∧ RelC M' σ ∧ HrT M' t (g0 σ) (tape (g0 σ) (nI b)) ∧ FrC M M' ∧ Out t M M' := by
  have hl : (sr (g0 σ) 2).length ≤ 96 := hI.1.L 2 (by decide)
  have hb6 : (sr (g0 σ) 1).length ≤ 6 := hI.1.L 1 (by decide)
  have hT := tape_len (g0 σ) (nI b)
  have t1 : 75 ≤ t ∧ t + 15 ≤ 124 := by rcases ht with rfl | rfl | rfl <;> decide
  obtain ⟨M1, a1, a2, a3⟩ := C_lay (N := N) (t := t) (bar := nI b) (by omega) (by omega) hN hl h.2.1 (h.tpA ht)
  have r1 : RelC M1 σ := h.tapeX ht (a3.mono (fun k q => by omega)) ((h.tpA ht).tp a2 a3)
  rw [tpS_N] at a2
  have p1 : TpT M1 t (g0 σ) (tape (g0 σ) (nI b)) := a2
  obtain ⟨z0, z1, z2, z3, ⟨x4, z4⟩, z5, z6, z7⟩ := r1.tpA ht
  obtain ⟨M2, b1, b2, b3⟩ := R_clear z4
  have r2 : RelC M2 σ := r1.tapeX ht (b3.mono (fun k q => by omega)) ⟨by rw [b3.2 _ (by omega)]; exact z0, z1.of b3 (by omega) (by omega), z2.of b3 (by omega) (by omega), z3.of b3 (by omega) (by omega), ⟨_, b2⟩, z5.of b3 (by omega) (by omega), z6.of b3 (by omega) (by omega), z7.of b3 (by omega) (by omega)⟩
  obtain ⟨u, hu, eu⟩ := hI.1.hse hb
  obtain ⟨o, c1, c2⟩ := C_textOf r2 (u := u) (by omega)
  have ewo : wyO (g0 σ) (nI b) = sx (g0 σ) u := by
    unfold wyO
    rw [lg_nI (by omega), eu, nI_clamp (by omega)]
  have p2 : TpT M2 t (g0 σ) (tape (g0 σ) (nI b)) := p1.of b3 (fun k x y => by omega)
  obtain ⟨M3, d1, d2, d3, d4, d5⟩ := C_hearL (N := N) (x3 := o) hI ht hN (show b < 6 by omega) (tape (g0 σ) (nI b)).length 0 N M2 (by omega) (by omega) r2 p2 b2 (by rw [ewo]; exact c2)
  refine ⟨M3, ?_, d2, d3, (a3.frC (fun k q => by omega)).trans ((b3.frC (fun k q => by omega)).trans d4), (a3.out (fun k q => by omega)).trans ((b3.out (fun k q => by omega)).trans d5)⟩
  have q3 : gQ M1 7 t 3 = some (t + 7) := gQ_ok p1.1 rfl
  simp only [fX7_hear, gC_ok (h.tpA ht).1, a1, q3, b1, r2.f1, R_at r2.w1, lg_nI (show b < 2 ^ 31 by omega), eu, c1, Option.bind_some]
  exact d1
