/-! the rings that count by a line -/
def ctd (S : St) (bar l : Int32) : List Nat := (tape S bar).filter (fun r => decide (cnt S l r))
theorem mem_ctd {S : St} {bar l : Int32} {x : Nat} : x ∈ ctd S bar l ↔ x < (sr S 2).length ∧ (sr S 2).getD x 0 = bar ∧ cnt S l x := by
  unfold ctd
  rw [List.mem_filter, mem_tape, decide_eq_true_eq, and_assoc]
theorem ctd_pw {S : St} (h : Iv S) (bar l : Int32) : (ctd S bar l).Pairwise (ahd S) := (tape_pw h bar).sublist List.filter_sublist
theorem ctd_len {S : St} (h : Iv S) (bar l : Int32) : (ctd S bar l).length ≤ 96 := Nat.le_trans (List.length_filter_le _ _) (Nat.le_trans (tape_len S bar) (h.L 2 (by decide)))
def Kp (M : Mm) (t : Nat) (S : St) (L : List Nat) : Prop := Rw M (t + 9) 96 (L.map nI) ∧ Rw M (t + 11) 96 (L.map (shn S))
theorem HrT.of {P : Nat → Prop} {M M' : Mm} {t : Nat} {S : St} {T : List Nat} (h : HrT M t S T) (o : Of P M M') (g : ∀ k, t ≤ k → k < t + 9 → ¬ P k) : HrT M' t S T := ⟨h.1.of o (fun k a b => g k a (by omega)), h.2.of o (g _ (by omega) (by omega)) (g _ (by omega) (by omega))⟩
theorem HrT.sm {M M' : Mm} {t : Nat} {S : St} {T : List Nat} (h : HrT M t S T) (o : Sm t (t + 9) M M') : HrT M' t S T := by
  obtain ⟨⟨h0, h1, h2, h3, h4⟩, h5⟩ := h
  exact ⟨⟨by rw [o _ (by omega) (by omega)]; exact h0, h1.mv (o.sub (by omega) (by omega)), h2.mv (o.sub (by omega) (by omega)), h3.mv (o.sub (by omega) (by omega)), h4⟩, h5.mv (o.sub (by omega) (by omega))⟩
theorem C_keepL {N : Nat} {t : Nat} {S : St} {T : List Nat} {l : Int32} (hT : T.length ≤ 96) : ∀ (k i f : Nat) (M : Mm), i + k = T.length → k < f → HrT M t S T → Kp M t S ((T.take i).filter (fun r => decide (cnt S l r))) → ∃ M', LX7_keepAbove_16 N f M t l (nI i) = some M' ∧ HrT M' t S T ∧ Kp M' t S (T.filter (fun r => decide (cnt S l r))) ∧ Of (fun k => t + 9 ≤ k ∧ k < t + 13) M M' := by
  intro k
  induction k with
  | zero =>
    intro i f M hk hf h g
    obtain ⟨f, rfl⟩ : ∃ g, f = g + 1 := ⟨f - 1, by omega⟩
    have e : i = T.length := by omega
    subst e
    rw [List.take_length] at g
    have q0 : gQ M 7 t 0 = some (t + 1) := gQ_ok h.1.1 rfl
    refine ⟨M, ?_, h, g, Of.rf⟩
    show BX7_keepAbove_16 N (LX7_keepAbove_16 N f) M t _ _ = _
    unfold BX7_keepAbove_16
    simp only [q0, R_size h.1.2.1, Option.bind_some, List.length_map]
    rw [if_pos (nI_le (Nat.le_refl _) (by omega))]
  | succ k ih =>
    intro i f M hk hf h g
    obtain ⟨f, rfl⟩ : ∃ g, f = g + 1 := ⟨f - 1, by omega⟩
    have hi : i < T.length := by omega
    have hg : T[i]? = some T[i] := List.getElem?_eq_getElem hi
    have etk : T.take (i + 1) = T.take i ++ [T[i]] := by rw [← List.take_concat_get hi, List.concat_eq_append]
    generalize T[i] = r at hg etk
    have q0 : gQ M 7 t 0 = some (t + 1) := gQ_ok h.1.1 rfl
    have q4 : gQ M 7 t 4 = some (t + 9) := gQ_ok h.1.1 rfl
    have er : (T.map nI).getD i 0 = nI r := by
      rw [List.getD_eq_getElem?_getD, List.getElem?_map, hg]; rfl
    have es : (T.map (shn S)).getD i 0 = shn S r := by
      rw [List.getD_eq_getElem?_getD, List.getElem?_map, hg]; rfl
    show ∃ M', BX7_keepAbove_16 N (LX7_keepAbove_16 N f) M t _ _ = _ ∧ _
    unfold BX7_keepAbove_16
    simp only [q0, q4, R_size h.1.2.1, R_at h.1.2.1, C_isCounted h hg (show i < 2 ^ 31 by omega), lg_nI (show i < 2 ^ 31 by omega), er, Option.bind_some, List.length_map, gd, nI_1]
    rw [if_neg (nI_ge hi (by omega))]
    have lt : ((T.take i).filter (fun r => decide (cnt S l r))).length < 96 := Nat.lt_of_le_of_lt (List.length_filter_le _ _) (by simp; omega)
    by_cases z : cnt S l r
    · rw [if_pos z]
      have ef : (T.take (i + 1)).filter (fun r => decide (cnt S l r)) = (T.take i).filter (fun r => decide (cnt S l r)) ++ [r] := by
        rw [etk, List.filter_append, List.filter_cons, if_pos (decide_eq_true z)]; rfl
      obtain ⟨M1, a1, a2, a3⟩ := R_add g.1 (nI r) (by rw [List.length_map]; exact lt)
      obtain ⟨M2, b1, b2, b3⟩ := R_add (g.2.of a3 (by omega) (by omega)) (shn S r) (by rw [List.length_map]; exact lt)
      have h1 : HrT M1 t S T := h.of a3 (fun k x y => by omega)
      have q5 : gQ M1 7 t 5 = some (t + 11) := gQ_ok h1.1.1 rfl
      have q1 : gQ M1 7 t 1 = some (t + 3) := gQ_ok h1.1.1 rfl
      have h2 : HrT M2 t S T := h1.of b3 (fun k x y => by omega)
      have kp : Kp M2 t S ((T.take (i + 1)).filter (fun r => decide (cnt S l r))) := by
        rw [ef]
        refine ⟨?_, ?_⟩
        · rw [List.map_append]; exact a2.of b3 (by omega) (by omega)
        · rw [List.map_append]; exact b2
      obtain ⟨M3, c1, c2, c3, c4⟩ := ih (i + 1) f M2 (by omega) (by omega) h2 kp
      refine ⟨M3, ?_, c2, c3, ((a3.mono (fun k q => by omega)).trans (b3.mono (fun k q => by omega))).trans c4⟩
      rw [a1, bd2_s]
      simp only [q5, q1, R_at h1.1.2.2.1, lg_nI (show i < 2 ^ 31 by omega), es, Option.bind_some]
      rw [b1, bd2_s]
      exact c1
    · rw [if_neg z]
      have ef : (T.take (i + 1)).filter (fun r => decide (cnt S l r)) = (T.take i).filter (fun r => decide (cnt S l r)) := by
        rw [etk, List.filter_append, List.filter_cons, if_neg (fun q => z (of_decide_eq_true q))]; simp
      exact ih (i + 1) f M (by omega) (by omega) h (by rw [ef]; exact g)
theorem C_keep {N : Nat} {M : Mm} {σ : Sg} {t : Nat} {bar : Int32} (h : RelC M σ) (hI : Ig σ) (ht : tpt t) (hN : 2000 ≤ N) (hr : HrT M t (g0 σ) (tape (g0 σ) bar)) (l : Int32) : ∃ M', fX7_keepAbove N M t l = some M' ∧ RelC M' σ ∧ HrT M' t (g0 σ) (tape (g0 σ) bar) ∧ Kp M' t (g0 σ) (ctd (g0 σ) bar l) ∧ Of (fun k => t + 9 ≤ k ∧ k < t + 13) M M' := by
  have hl : (sr (g0 σ) 2).length ≤ 96 := hI.1.L 2 (by decide)
  have hT := tape_len (g0 σ) bar
  have t1 : 75 ≤ t ∧ t + 15 ≤ 124 := by rcases ht with rfl | rfl | rfl <;> decide
  obtain ⟨z0, z1, z2, z3, z4, ⟨x5, z5⟩, ⟨x6, z6⟩, z7⟩ := h.tpA ht
  obtain ⟨M1, a1, a2, a3⟩ := R_clear z5
  obtain ⟨M2, b1, b2, b3⟩ := R_clear (z6.of a3 (by omega) (by omega))
  have h2 : HrT M2 t (g0 σ) (tape (g0 σ) bar) := (hr.of a3 (fun k x y => by omega)).of b3 (fun k x y => by omega)
  obtain ⟨M3, c1, c2, c3, c4⟩ := C_keepL (N := N) (t := t) (S := g0 σ) (T := tape (g0 σ) bar) (l := l) (by omega) (tape (g0 σ) bar).length 0 N M2 (by omega) (by omega) h2 ⟨a2.of b3 (by omega) (by omega), b2⟩
  have o : Of (fun k => t + 9 ≤ k ∧ k < t + 13) M M3 := ((a3.mono (fun k q => by omega)).trans (b3.mono (fun k q => by omega))).trans c4
  refine ⟨M3, ?_, h.tapeX ht (o.mono (fun k q => by omega)) ⟨by rw [o.2 _ (by omega)]; exact z0, z1.of o (by omega) (by omega), z2.of o (by omega) (by omega), z3.of o (by omega) (by omega), z4.of o (by omega) (by omega), ⟨_, c3.1⟩, ⟨_, c3.2⟩, z7.of o (by omega) (by omega)⟩, c2, c3, o⟩
  have q4 : gQ M 7 t 4 = some (t + 9) := gQ_ok hr.1.1 rfl
  have q5 : gQ M1 7 t 5 = some (t + 11) := gQ_ok (hr.of a3 (fun k x y => by omega)).1.1 rfl
  simp only [fX7_keepAbove, gC_ok hr.1.1, q4, a1, q5, b1, Option.bind_some]
  exact c1
/-- a bar's rings heard, those that count kept -/
theorem C_hk {N : Nat} {M : Mm} {σ : Sg} {t b : Nat} (h : RelC M σ) (hI : Ig σ) (ht : tpt t) (hN : 2000 ≤ N) (hb : b < (sr (g0 σ) 1).length) (l : Int32) : ∃ M1 M2, fX7_hear N M t 1 (nI b) = some M1 ∧ RelC M1 σ ∧ fX7_keepAbove N M1 t l = some M2 ∧ RelC M2 σ ∧ Kp M2 t (g0 σ) (ctd (g0 σ) (nI b) l) ∧ FrC M M2 := by
  have t1 : 75 ≤ t ∧ t + 15 ≤ 124 := by rcases ht with rfl | rfl | rfl <;> decide
  obtain ⟨M1, a1, a2, a3, a4, a5⟩ := C_hear h hI ht hN hb
  obtain ⟨M2, b1, b2, b3, b4, b5⟩ := C_keep a2 hI ht hN a3 l
  exact ⟨M1, M2, a1, a2, b1, b2, b4, a4.trans (b5.frC (fun k q => by omega))⟩
/-! near -/
def ab (y : Int32) : Int32 := if 0 ≤ y then y else -y
theorem C_abs (M : Mm) (y : Int32) : fJ9_abs_0f7a4 M y = some (ab y) := by
  unfold fJ9_abs_0f7a4 ab
  by_cases h : 0 ≤ y
  · rw [if_pos h, if_pos h]
  · rw [if_neg h, if_neg h]
theorem T_size (M : Mm) (y : Int32) : fX11_size M y = some (ab y) := by
  unfold fX11_size ab
  by_cases h : 0 ≤ y
  · rw [if_pos h, if_pos h]
  · rw [if_neg h, if_neg h]
theorem R_nearL {N : Nat} {M : Mm} {a cap : Nat} {xs : List Int32} (h : Rw M a cap xs) (v w : Int32) : ∀ (k i f : Nat), i + k = xs.length → k < f → LX3_hasNear_2 N f M a v w (nI i) = some (if (xs.drop i).any (fun x => decide (¬ w < ab (x - v))) = true then 1 else 0) := by
  intro k
  have hl := h.ll.1
  induction k with
  | zero =>
    intro i f hk hf
    obtain ⟨f, rfl⟩ : ∃ g, f = g + 1 := ⟨f - 1, by omega⟩
    have e : i = xs.length := by omega
    subst e
    show BX3_hasNear_2 N (LX3_hasNear_2 N f) M a _ _ _ = _
    unfold BX3_hasNear_2
    simp only [h.gI, Option.bind_some]
    rw [if_pos (nI_le (Nat.le_refl _) (by omega)), List.drop_length, if_neg (by simp)]
  | succ k ih =>
    intro i f hk hf
    obtain ⟨f, rfl⟩ : ∃ g, f = g + 1 := ⟨f - 1, by omega⟩
    have hi : i < xs.length := by omega
    have q := ih (i + 1) f (by omega) (by omega)
    have ei : xs.getD i 0 = xs[i] := by simp [List.getD_eq_getElem?_getD, hi]
    show BX3_hasNear_2 N (LX3_hasNear_2 N f) M a _ _ _ = _
    unfold BX3_hasNear_2
    simp only [h.gI, R_at h, lg_nI (show i < 2 ^ 31 by omega), C_abs, nI_1, ei, Option.bind_some]
    rw [if_neg (nI_ge hi (by omega)), List.drop_eq_getElem_cons hi, List.any_cons]
    by_cases z : w < ab (xs[i] - v)
    · rw [if_pos z, q, show decide (¬ w < ab (xs[i] - v)) = false from decide_eq_false (fun q => q z), Bool.false_or]
    · rw [if_neg z, show decide (¬ w < ab (xs[i] - v)) = true from decide_eq_true z, Bool.true_or, if_pos rfl]
theorem R_near {N : Nat} {M : Mm} {a cap : Nat} {xs : List Int32} (h : Rw M a cap xs) (hN : 2000 ≤ N) (v w : Int32) : fX3_hasNear N M a v w = some (if xs.any (fun x => decide (¬ w < ab (x - v))) = true then 1 else 0) := by
  have h1 := h.1
  have h2 := h.2.1
  have q := R_nearL (N := N) h v w xs.length 0 N (by omega) (by omega)
  simp only [fX3_hasNear, h.gC, Option.bind_some]
  exact q
theorem cP_s (p : Nat → Bool) (i : Nat) : (List.range (i + 1)).countP p = (List.range i).countP p + if p i = true then 1 else 0 := by
  rw [List.range_succ, List.countP_append, List.countP_cons]
  simp
theorem cP_le (p : Nat → Bool) (i : Nat) : (List.range i).countP p ≤ i := by
  have := List.countP_le_length (p := p) (l := List.range i)
  simpa using this
/-- counting on the tape, and by all rings -/
theorem ctd_cnt (S : St) (bar l : Int32) (p : Nat → Bool) : (ctd S bar l).countP p = (List.range (sr S 2).length).countP (fun r => decide ((sr S 2).getD r 0 = bar ∧ cnt S l r) && p r) := by
  unfold ctd
  rw [List.countP_filter, (tape_perm S bar).countP_eq, List.countP_filter]
  congr 1
  funext r
  rw [show decide ((sr S 2).getD r 0 = bar ∧ cnt S l r) = (decide ((sr S 2).getD r 0 = bar) && decide (cnt S l r)) from Bool.decide_and _ _]
  cases p r <;> cases decide (cnt S l r) <;> cases decide ((sr S 2).getD r 0 = bar) <;> rfl
theorem any_s (p : Nat → Bool) (i : Nat) : (List.range (i + 1)).any p = ((List.range i).any p || p i) := by
  rw [List.range_succ, List.any_append]
  simp
theorem ctd_any (S : St) (bar l : Int32) (p : Nat → Bool) : (ctd S bar l).any p = (List.range (sr S 2).length).any (fun r => decide ((sr S 2).getD r 0 = bar ∧ cnt S l r) && p r) := by
  rw [Bool.eq_iff_iff, List.any_eq_true, List.any_eq_true]
  constructor
  · rintro ⟨x, hx, hp⟩
    have m := mem_ctd.mp hx
    exact ⟨x, List.mem_range.mpr m.1, by rw [decide_eq_true m.2, hp]; rfl⟩
  · rintro ⟨x, hx, hp⟩
    rw [Bool.and_eq_true] at hp
    exact ⟨x, mem_ctd.mpr ⟨List.mem_range.mp hx, of_decide_eq_true hp.1⟩, hp.2⟩
