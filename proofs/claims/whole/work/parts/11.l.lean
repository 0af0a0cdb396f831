/-! spreads -/
def ptX (S : St) (p : Int32) (r : Nat) : Int32 := (12 : Int32) * fmd (shn S r) p / p
def pj (S : St) (p : Int32) (r : Nat) : Nat := (ptX S p r).toNatClampNeg
theorem pj_ok {p : Int32} (hp : wi p 12 999) (S : St) (r : Nat) : ptX S p r = nI (pj S p r) ∧ pj S p r < 12 := by
  rw [wi_i] at hp
  have e12 : (12 : Int32).toInt = 12 := by decide
  have e9 : (999 : Int32).toInt = 999 := by decide
  rw [e12, e9] at hp
  have hf := fmd_i (x := shn S r) (y := p) (by omega)
  have f1 := Int.emod_nonneg (shn S r).toInt (show p.toInt ≠ 0 by omega)
  have f2 := Int.emod_lt_of_pos (shn S r).toInt (show 0 < p.toInt by omega)
  rw [← hf] at f1 f2
  obtain ⟨m, em⟩ : ∃ m : Nat, (fmd (shn S r) p).toInt = m := ⟨(fmd (shn S r) p).toInt.toNat, by omega⟩
  obtain ⟨q, eq⟩ : ∃ q : Nat, p.toInt = q := ⟨p.toInt.toNat, by omega⟩
  have e1 : fmd (shn S r) p = nI m := by rw [i_eq, em, nI_toInt (by omega)]
  have e2 : p = nI q := by rw [i_eq, eq, nI_toInt (by omega)]
  have e3 : ptX S p r = nI (12 * m / q) := by
    unfold ptX
    rw [e1]
    conv => lhs; rw [e2]
    rw [show (12 : Int32) * nI m = nI (12 * m) from pk_mul 12 m, pk_div (by omega) (by omega) (by omega)]
  have e4 : 12 * m / q < 12 := Nat.div_lt_of_lt_mul (by omega)
  unfold pj
  rw [e3, nI_clamp (by omega)]
  exact ⟨rfl, e4⟩
def sqs (c : Nat → Nat) : Nat → Int32
  | 0 => 0
  | k + 1 => sqs c k + nI (c k) * nI (c k)
def sprd (S : St) (bar l p : Int32) : Int32 := sqs (fun k => (ctd S bar l).countP (fun r => decide (pj S p r = k))) 12
theorem R_fill' {M : Mm} {a cap : Nat} {xs : List Int32} {N c : Nat} (h : Rw M a cap xs) (v : Int32) (hc : c ≤ cap) (hN : 2000 ≤ N) : ∃ M', fX3_fill N M a (nI c) v = some M' ∧ Rw M' a cap (List.replicate c v) ∧ Of (fun k => k = a ∨ k = a + 1) M M' := R_fill h v hc (by omega)
theorem C_sqL {N : Nat} {M : Mm} {t : Nat} {c : Nat → Nat} (h0 : M[t]? = some (.inr (7, tpF t))) (h : Rw M (t + 13) 12 ((List.range 12).map (fun k => nI (c k)))) : ∀ (k i f : Nat), i + k = 12 → k < f → LX7_spreadBy_64 N f M t (sqs c i) (nI i) = some (sqs c 12, M) := by
  have q6 : gQ M 7 t 6 = some (t + 13) := gQ_ok h0 rfl
  intro k
  induction k with
  | zero =>
    intro i f hk hf
    obtain ⟨f, rfl⟩ : ∃ g, f = g + 1 := ⟨f - 1, by omega⟩
    have e : i = 12 := by omega
    subst e
    show BX7_spreadBy_64 N (LX7_spreadBy_64 N f) M t _ _ = _
    unfold BX7_spreadBy_64
    rw [if_pos (by decide)]
  | succ k ih =>
    intro i f hk hf
    obtain ⟨f, rfl⟩ : ∃ g, f = g + 1 := ⟨f - 1, by omega⟩
    have q := ih (i + 1) f (by omega) (by omega)
    have ei : ((List.range 12).map (fun k => nI (c k))).getD i 0 = nI (c i) := by
      rw [List.getD_eq_getElem?_getD, List.getElem?_map, List.getElem?_range (by omega)]; rfl
    show BX7_spreadBy_64 N (LX7_spreadBy_64 N f) M t _ _ = _
    unfold BX7_spreadBy_64
    simp only [q6, R_at h, lg_nI (show i < 2 ^ 31 by omega), ei, Option.bind_some, nI_1]
    rw [if_neg (show ¬ (12 : Int32) ≤ nI i from nI_ge (b := 12) (by omega) (by decide))]
    exact q
theorem map_set1 {g g' : Nat → Int32} {j n : Nat} {v : Int32} (h1 : g' j = v) (h2 : ∀ k, k ≠ j → g' k = g k) : ((List.range n).map g).set j v = (List.range n).map g' := by
  apply List.ext_getElem?
  intro i
  rw [List.getElem?_set, List.getElem?_map, List.getElem?_map, List.length_map, List.length_range]
  by_cases e : j = i
  · subst e
    rw [if_pos rfl]
    by_cases z : j < n
    · rw [if_pos z, List.getElem?_range z, Option.map_some, h1]
    · rw [if_neg z, List.getElem?_eq_none (by simpa using z)]; rfl
  · rw [if_neg e]
    by_cases z : i < n
    · rw [List.getElem?_range z, Option.map_some, Option.map_some, h2 i (fun q => e q.symm)]
    · rw [List.getElem?_eq_none (by simpa using z)]; rfl
theorem C_spL {N : Nat} {t : Nat} {S : St} {L : List Nat} {p : Int32} (hp : wi p 12 999) (hL : L.length ≤ 96) (hN : 2000 ≤ N) : ∀ (k i f : Nat) (M : Mm), i + k = L.length → k < f → M[t]? = some (.inr (7, tpF t)) → Rw M (t + 11) 96 (L.map (shn S)) → Rw M (t + 13) 12 ((List.range 12).map (fun k => nI ((L.take i).countP (fun r => decide (pj S p r = k))))) → ∃ M' ys, LX7_spreadBy_18 N f M t p (nI i) = some (sqs (fun k => L.countP (fun r => decide (pj S p r = k))) 12, M') ∧ Rw M' (t + 13) 12 ys ∧ Of (fun k => k = t + 13 ∨ k = t + 14) M M' := by
  have hp0 : 0 < p.toInt := by
    rw [wi_i] at hp
    have e12 : (12 : Int32).toInt = 12 := by decide
    omega
  have hpn : ¬ p = 0 := fun e => by rw [e] at hp0; exact absurd hp0 (by decide)
  intro k
  induction k with
  | zero =>
    intro i f M hk hf h0 h1 h2
    obtain ⟨f, rfl⟩ : ∃ g, f = g + 1 := ⟨f - 1, by omega⟩
    have e : i = L.length := by omega
    subst e
    rw [List.take_length] at h2
    have q5 : gQ M 7 t 5 = some (t + 11) := gQ_ok h0 rfl
    refine ⟨M, _, ?_, h2, Of.rf⟩
    show BX7_spreadBy_18 N (LX7_spreadBy_18 N f) M t _ _ = _
    unfold BX7_spreadBy_18
    simp only [q5, R_size h1, Option.bind_some, List.length_map]
    rw [if_pos (nI_le (Nat.le_refl _) (by omega))]
    exact C_sqL (N := N) h0 h2 12 0 N (by omega) (by omega)
  | succ k ih =>
    intro i f M hk hf h0 h1 h2
    obtain ⟨f, rfl⟩ : ∃ g, f = g + 1 := ⟨f - 1, by omega⟩
    have hi : i < L.length := by omega
    have hg : L[i]? = some L[i] := List.getElem?_eq_getElem hi
    have etk : L.take (i + 1) = L.take i ++ [L[i]] := by rw [← List.take_concat_get hi, List.concat_eq_append]
    generalize L[i] = r at hg etk
    have es : (L.map (shn S)).getD i 0 = shn S r := by
      rw [List.getD_eq_getElem?_getD, List.getElem?_map, hg]; rfl
    obtain ⟨p1, p2⟩ := pj_ok hp S r
    have q5 : gQ M 7 t 5 = some (t + 11) := gQ_ok h0 rfl
    have q6 : gQ M 7 t 6 = some (t + 13) := gQ_ok h0 rfl
    have ed : dI ((12 : Int32) * fmd (shn S r) p) p = some (nI (pj S p r)) := by
      unfold dI
      rw [if_neg hpn, ← p1]; rfl
    obtain ⟨M1, a1, a2, a3⟩ := R_raise h2 (j := pj S p r) (by simpa using p2) 1
    have ei : ((List.range 12).map (fun k => nI ((L.take i).countP (fun r => decide (pj S p r = k))))).getD (pj S p r) 0 = nI ((L.take i).countP (fun x => decide (pj S p x = pj S p r))) := by
      rw [List.getD_eq_getElem?_getD, List.getElem?_map, List.getElem?_range p2]; rfl
    rw [ei, nI_1, map_set1 (g' := fun k => nI ((L.take (i + 1)).countP (fun r => decide (pj S p r = k))))] at a2
    · have h0' : M1[t]? = some (.inr (7, tpF t)) := by rw [a3.2 _ (by omega)]; exact h0
      obtain ⟨M2, ys, b1, b2, b3⟩ := ih (i + 1) f M1 (by omega) (by omega) h0' (h1.of a3 (by omega) (by omega)) a2
      refine ⟨M2, ys, ?_, b2, a3.trans b3⟩
      show BX7_spreadBy_18 N (LX7_spreadBy_18 N f) M t _ _ = _
      unfold BX7_spreadBy_18
      simp only [q5, q6, R_size h1, R_at h1, lg_nI (show i < 2 ^ 31 by omega), es, C_floorMod M hp0, ed, a1, Option.bind_some, List.length_map, nI_1]
      rw [if_neg (nI_ge hi (by omega))]
      exact b1
    · show nI ((L.take (i + 1)).countP (fun x => decide (pj S p x = pj S p r))) = _
      rw [etk, List.countP_append, List.countP_cons, if_pos (decide_eq_true rfl)]
      rfl
    · intro k hk
      show nI ((L.take (i + 1)).countP (fun x => decide (pj S p x = k))) = _
      rw [etk, List.countP_append, List.countP_cons, if_neg (fun q => hk (of_decide_eq_true q).symm)]
      rfl
theorem C_spread1 {N : Nat} {M : Mm} {σ : Sg} {bar l p : Int32} (h : RelC M σ) (hI : Ig σ) (hN : 2000 ≤ N) (hk : Kp M 109 (g0 σ) (ctd (g0 σ) bar l)) (hp : wi p 12 999) : ∃ M', fX7_spreadBy N M 109 p = some (sprd (g0 σ) bar l p, M') ∧ RelC M' σ ∧ Kp M' 109 (g0 σ) (ctd (g0 σ) bar l) ∧ FrC M M' := by
  have hl := ctd_len hI.1 bar l
  obtain ⟨z0, z1, z2, z3, z4, z5, z6, ⟨x7, z7⟩⟩ := h.tpA (t := 109) (Or.inr (Or.inr rfl))
  obtain ⟨M1, a1, a2, a3⟩ := R_fill' (N := N) z7 0 (c := 12) (Nat.le_refl _) hN
  have h0 : M1[109]? = some (.inr (7, tpF 109)) := by rw [a3.2 _ (by omega)]; exact z0
  have h2 : Rw M1 (109 + 13) 12 ((List.range 12).map (fun k => nI (((ctd (g0 σ) bar l).take 0).countP (fun r => decide (pj (g0 σ) p r = k))))) := by
    rw [show (List.range 12).map (fun k => nI (((ctd (g0 σ) bar l).take 0).countP (fun r => decide (pj (g0 σ) p r = k)))) = List.replicate 12 0 from by rw [List.take_zero]; rfl]
    exact a2
  obtain ⟨M2, ys, b1, b2, b3⟩ := C_spL (N := N) (t := 109) (S := g0 σ) (L := ctd (g0 σ) bar l) hp hl hN (ctd (g0 σ) bar l).length 0 N M1 (by omega) (by omega) h0 (hk.2.of a3 (by omega) (by omega)) h2
  have o : Of (fun k => k = 109 + 13 ∨ k = 109 + 14) M M2 := a3.trans b3
  refine ⟨M2, ?_, h.tapeX (t := 109) (Or.inr (Or.inr rfl)) (o.mono (fun k q => by omega)) ⟨by rw [o.2 _ (by omega)]; exact z0, z1.of o (by omega) (by omega), z2.of o (by omega) (by omega), z3.of o (by omega) (by omega), z4.of o (by omega) (by omega), z5.of o (by omega) (by omega), z6.of o (by omega) (by omega), ⟨_, b2⟩⟩, ⟨hk.1.of o (by omega) (by omega), hk.2.of o (by omega) (by omega)⟩, o.frC (fun k q => by omega)⟩
  have q6 : gQ M 7 109 6 = some (109 + 13) := gQ_ok z0 rfl
  have a1' : fX3_fill N M (109 + 13) 12 0 = some M1 := a1
  have hp0 : 0 < p := by
    rw [wi_i] at hp
    rw [i_lt, z_i]
    have e12 : (12 : Int32).toInt = 12 := by decide
    omega
  simp only [fX7_spreadBy, gC_ok z0, q6, a1', Option.bind_some]
  rw [if_pos hp0]
  exact b1
/-! in the reference -/
theorem T_sqL {N : Nat} {M : Mm} {F : Nat → Int32} {A : Nat → Nat → Int32} {c : Nat → Nat} (h : TwAt M F A) (hc : ∀ k, k < 12 → A 13 k = nI (c k)) : ∀ (k i f : Nat), i + k = 12 → k < f → LX11_spreadOf_86 N f M 137 (sqs c i) (nI i) = some (sqs c 12, M) := by
  have q : gQ M 11 137 19 = some 151 := T_ref h rfl
  intro k
  induction k with
  | zero =>
    intro i f hk hf
    obtain ⟨f, rfl⟩ : ∃ g, f = g + 1 := ⟨f - 1, by omega⟩
    have e : i = 12 := by omega
    subst e
    show BX11_spreadOf_86 N (LX11_spreadOf_86 N f) M 137 _ _ = _
    unfold BX11_spreadOf_86
    rw [if_pos (by decide)]
  | succ k ih =>
    intro i f hk hf
    obtain ⟨f, rfl⟩ : ∃ g, f = g + 1 := ⟨f - 1, by omega⟩
    have w := ih (i + 1) f (by omega) (by omega)
    have ei : aI M 0 151 (nI i) = some (nI (c i)) := by
      rw [← hc i (by omega)]; exact T_get h 13 (by decide) (show i < 12 by omega)
    show BX11_spreadOf_86 N (LX11_spreadOf_86 N f) M 137 _ _ = _
    unfold BX11_spreadOf_86
    simp only [q, ei, Option.bind_some, nI_1]
    rw [if_neg (show ¬ (12 : Int32) ≤ nI i from nI_ge (b := 12) (by omega) (by decide))]
    exact w
def inC (S : St) (bar l : Int32) (r : Nat) : Bool := decide ((sr S 2).getD r 0 = bar ∧ cnt S l r)
theorem T_spL {N : Nat} {F : Nat → Int32} {σ : Sg} {bar l p : Int32} (hI : Ig σ) (hp : wi p 12 999) (hN : 2000 ≤ N) : ∀ (k i f : Nat) (M : Mm) (A : Nat → Nat → Int32), i + k = (sr (g0 σ) 2).length → k < f → TwAt M F A → TwR F A σ → RdA A (g0 σ) (sr (g0 σ) 2).length → (∀ k, k < 12 → A 13 k = nI ((List.range i).countP (fun r => inC (g0 σ) bar l r && decide (pj (g0 σ) p r = k)))) → ∃ M' A', LX11_spreadOf_27 N f M 137 bar l p (nI i) = some (sprd (g0 σ) bar l p, M') ∧ TwAt M' F A' ∧ (∀ k, k ≠ 13 → A' k = A k) ∧ FrT M M' := by
  have hl : (sr (g0 σ) 2).length ≤ 96 := hI.1.L 2 (by decide)
  have hp0 : 0 < p.toInt := by
    rw [wi_i] at hp
    have e12 : (12 : Int32).toInt = 12 := by decide
    omega
  have hpn : ¬ p = 0 := fun e => by rw [e] at hp0; exact absurd hp0 (by decide)
  intro k
  induction k with
  | zero =>
    intro i f M A hk hf h r hd hc
    obtain ⟨f, rfl⟩ : ∃ g, f = g + 1 := ⟨f - 1, by omega⟩
    have e : i = (sr (g0 σ) 2).length := by omega
    subst e
    refine ⟨M, A, ?_, h, fun _ _ => rfl, Of.rf⟩
    show BX11_spreadOf_27 N (LX11_spreadOf_27 N f) M 137 _ _ _ _ = _
    unfold BX11_spreadOf_27
    simp only [T_q0 h, (T_cnt h r).2.1, Option.bind_some]
    rw [if_pos (nI_le (Nat.le_refl _) (by omega))]
    have w := T_sqL (N := N) (c := fun k => (ctd (g0 σ) bar l).countP (fun r => decide (pj (g0 σ) p r = k))) h (fun k hk => by rw [hc k hk, ctd_cnt]; rfl) 12 0 N (by omega) (by omega)
    exact w
  | succ k ih =>
    intro i f M A hk hf h r hd hc
    obtain ⟨f, rfl⟩ : ∃ g, f = g + 1 := ⟨f - 1, by omega⟩
    have hi : i < (sr (g0 σ) 2).length := by omega
    show ∃ M' A', BX11_spreadOf_27 N (LX11_spreadOf_27 N f) M 137 _ _ _ _ = _ ∧ _
    unfold BX11_spreadOf_27
    simp only [T_q0 h, (T_cnt h r).2.1, T_isCounted h r hd hI hi, Option.bind_some, gd, nI_1]
    rw [if_neg (nI_ge hi (by omega))]
    by_cases z : (sr (g0 σ) 2).getD i 0 = bar ∧ cnt (g0 σ) l i
    · rw [if_pos z]
      obtain ⟨p1, p2⟩ := pj_ok hp (g0 σ) i
      have q19 : gQ M 11 137 19 = some 151 := T_ref h rfl
      have q4 : gQ M 11 137 4 = some 141 := T_ref h rfl
      have es : aI M 0 141 (nI i) = some (shn (g0 σ) i) := by
        rw [← (hd i hi).1]; exact T_get h 3 (by decide) (show i < 96 by omega)
      have ed : dI ((12 : Int32) * fmd (shn (g0 σ) i) p) p = some (nI (pj (g0 σ) p i)) := by
        unfold dI
        rw [if_neg hpn, ← p1]; rfl
      have eg : aI M 0 151 (nI (pj (g0 σ) p i)) = some (A 13 (pj (g0 σ) p i)) := T_get h 13 (by decide) p2
      obtain ⟨M1, a1, a2, a3⟩ := T_put h 13 (by decide) (j := pj (g0 σ) p i) p2 (A 13 (pj (g0 σ) p i) + 1)
      have a1' : sI M 0 151 (nI (pj (g0 σ) p i)) (A 13 (pj (g0 σ) p i) + 1) = some M1 := a1
      simp only [q19, q4, es, T_rest M hp0, ed, eg, a1', Option.bind_some]
      obtain ⟨M2, A2, b1, b2, b3, b4⟩ := ih (i + 1) f M1 _ (by omega) (by omega) a2 (r.s rfl rfl rfl rfl rfl rfl rfl) hd (fun k hk => by
        show upd (A 13) (pj (g0 σ) p i) (A 13 (pj (g0 σ) p i) + 1) k = _
        rw [cP_s, show inC (g0 σ) bar l i = true from decide_eq_true z, Bool.true_and]
        by_cases e : k = pj (g0 σ) p i
        · subst e
          rw [pk_us, hc _ p2, if_pos (decide_eq_true rfl), nI_1]
        · rw [pk_un e, hc k hk, if_neg (fun q => e (of_decide_eq_true q).symm)]; rfl)
      exact ⟨M2, A2, b1, b2, fun k hk => by rw [b3 k hk, u2_n hk], a3.trans b4⟩
    · rw [if_neg z]
      refine ih (i + 1) f M A (by omega) (by omega) h r hd (fun k hk => ?_)
      rw [cP_s, show inC (g0 σ) bar l i = false from decide_eq_false z, Bool.false_and, if_neg (by decide)]
      exact hc k hk
theorem T_sp0 {N : Nat} {F : Nat → Int32} {σ : Sg} {bar l p : Int32} (hI : Ig σ) (hp : wi p 12 999) (hN : 2000 ≤ N) : ∀ (k i f : Nat) (M : Mm) (A : Nat → Nat → Int32), i + k = 12 → k < f → TwAt M F A → TwR F A σ → RdA A (g0 σ) (sr (g0 σ) 2).length → (∀ k, k < i → A 13 k = 0) → ∃ M' A', LX11_spreadOf_3 N f M 137 bar l p (nI i) = some (sprd (g0 σ) bar l p, M') ∧ TwAt M' F A' ∧ (∀ k, k ≠ 13 → A' k = A k) ∧ FrT M M' := by
  have hl : (sr (g0 σ) 2).length ≤ 96 := hI.1.L 2 (by decide)
  intro k
  induction k with
  | zero =>
    intro i f M A hk hf h r hd hc
    obtain ⟨f, rfl⟩ : ∃ g, f = g + 1 := ⟨f - 1, by omega⟩
    have e : i = 12 := by omega
    subst e
    show ∃ M' A', BX11_spreadOf_3 N (LX11_spreadOf_3 N f) M 137 _ _ _ _ = _ ∧ _
    unfold BX11_spreadOf_3
    rw [if_pos (by decide)]
    exact T_spL (N := N) (F := F) hI hp hN (sr (g0 σ) 2).length 0 N M A (by omega) (by omega) h r hd (fun k hk => by rw [hc k hk]; rfl)
  | succ k ih =>
    intro i f M A hk hf h r hd hc
    obtain ⟨f, rfl⟩ : ∃ g, f = g + 1 := ⟨f - 1, by omega⟩
    have q19 : gQ M 11 137 19 = some 151 := T_ref h rfl
    obtain ⟨M1, a1, a2, a3⟩ := T_put h 13 (by decide) (j := i) (show i < 12 by omega) 0
    have a1' : sI M 0 151 (nI i) 0 = some M1 := a1
    obtain ⟨M2, A2, b1, b2, b3, b4⟩ := ih (i + 1) f M1 _ (by omega) (by omega) a2 (r.s rfl rfl rfl rfl rfl rfl rfl) hd (fun k hk => by
      show upd (A 13) i 0 k = 0
      by_cases e : k = i
      · subst e; exact pk_us
      · rw [pk_un e]; exact hc k (by omega))
    refine ⟨M2, A2, ?_, b2, fun k hk => by rw [b3 k hk, u2_n hk], a3.trans b4⟩
    show BX11_spreadOf_3 N (LX11_spreadOf_3 N f) M 137 _ _ _ _ = _
    unfold BX11_spreadOf_3
    simp only [q19, a1', Option.bind_some, nI_1]
    rw [if_neg (show ¬ (12 : Int32) ≤ nI i from nI_ge (b := 12) (by omega) (by decide))]
    exact b1
theorem T_spread1 {N : Nat} {M : Mm} {F : Nat → Int32} {A : Nat → Nat → Int32} {σ : Sg} {bar l p : Int32} (h : TwAt M F A) (r : TwR F A σ) (hd : RdA A (g0 σ) (sr (g0 σ) 2).length) (hI : Ig σ) (hp : wi p 12 999) (hN : 2000 ≤ N) : ∃ M' A', fX11_spreadOf N M 137 bar l p = some (sprd (g0 σ) bar l p, M') ∧ TwAt M' F A' ∧ TwR F A' σ ∧ RdA A' (g0 σ) (sr (g0 σ) 2).length ∧ FrT M M' := by
  obtain ⟨M1, A1, a1, a2, a3, a4⟩ := T_sp0 (N := N) (F := F) (bar := bar) (l := l) hI hp hN 12 0 N M A (by omega) (by omega) h r hd (fun k hk => by omega)
  refine ⟨M1, A1, ?_, a2, r.s (a3 0 (by decide)) (a3 1 (by decide)) (a3 2 (by decide)) (a3 5 (by decide)) (a3 6 (by decide)) (a3 7 (by decide)) (a3 14 (by decide)), ?_, a4⟩
  · simp only [fX11_spreadOf, T_c h, Option.bind_some]
    exact a1
  · unfold RdA
    rw [a3 3 (by decide), a3 4 (by decide)]
    exact hd
