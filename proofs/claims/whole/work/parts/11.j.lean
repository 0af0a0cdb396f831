/-! seen -/
def snB (S : St) (bar l w : Int32) (k : Nat) : Bool := (ctd S bar l).any (fun r => decide (¬ w < ab ((sr S 3).getD r 0 - (sr S 7).getD k 0)))
def snV (S : St) (bar l w : Int32) : Nat → Int32
  | 0 => 0
  | k + 1 => if snB S bar l w k = true then snV S bar l w k ||| ((1 : Int32) <<< (nI k &&& 31)) else snV S bar l w k
def sp_seen (σ : Sg) (bar l w : Int32) : An := if isB (g0 σ) bar ∧ wi l 0 999 ∧ wi w 0 50 then (snV (g0 σ) bar l w (sr (g0 σ) 7).length, σ) else er σ 1
theorem any_map {α β : Type} (L : List α) (f : α → β) (p : β → Bool) : (L.map f).any p = L.any (fun a => p (f a)) := by
  induction L with
  | nil => rfl
  | cons a L ih => rw [List.map_cons, List.any_cons, List.any_cons, ih]
theorem any_congr {L : List Nat} {p q : Nat → Bool} (h : ∀ x ∈ L, p x = q x) : L.any p = L.any q := by
  induction L with
  | nil => rfl
  | cons a L ih => rw [List.any_cons, List.any_cons, h a (List.mem_cons_self ..), ih (fun x hx => h x (List.mem_cons_of_mem _ hx))]
theorem C_seenL {N : Nat} {M : Mm} {σ : Sg} {bar l w : Int32} (h : RelC M σ) (hI : Ig σ) (hN : 2000 ≤ N) (hk : Kp M 109 (g0 σ) (ctd (g0 σ) bar l)) : ∀ (k i f : Nat), i + k = (sr (g0 σ) 7).length → k < f → LX10_seen_64 N f M 0 w (clk (g0 σ) bar) (snV (g0 σ) bar l w i) (nI i) = some (snV (g0 σ) bar l w (sr (g0 σ) 7).length, M) := by
  have hl : (sr (g0 σ) 7).length ≤ 10 := hI.1.L 7 (by decide)
  have q5 : gQ M 7 109 5 = some 120 := gQ_ok (h.tpA (Or.inr (Or.inr rfl))).1 rfl
  intro k
  induction k with
  | zero =>
    intro i f hk' hf
    obtain ⟨f, rfl⟩ : ∃ g, f = g + 1 := ⟨f - 1, by omega⟩
    have e : i = (sr (g0 σ) 7).length := by omega
    subst e
    show BX10_seen_64 N (LX10_seen_64 N f) M 0 _ _ _ _ = _
    unfold BX10_seen_64
    simp only [h.q0, h.f7, R_size h.w7, Option.bind_some]
    rw [if_pos (nI_le (Nat.le_refl _) (by omega))]
  | succ k ih =>
    intro i f hk' hf
    obtain ⟨f, rfl⟩ : ∃ g, f = g + 1 := ⟨f - 1, by omega⟩
    have q := ih (i + 1) f (by omega) (by omega)
    have hi : i < (sr (g0 σ) 7).length := by omega
    have w5 : Rw M 120 96 ((ctd (g0 σ) bar l).map (shn (g0 σ))) := hk.2
    have en : ((ctd (g0 σ) bar l).map (shn (g0 σ))).any (fun x => decide (¬ w < ab (x - ((sr (g0 σ) 7).getD i 0 + clk (g0 σ) bar)))) = snB (g0 σ) bar l w i := by
      rw [any_map]
      refine any_congr (fun x hx => ?_)
      have m := mem_ctd.mp hx
      rw [show shn (g0 σ) x - ((sr (g0 σ) 7).getD i 0 + clk (g0 σ) bar) = (sr (g0 σ) 3).getD x 0 - (sr (g0 σ) 7).getD i 0 from by unfold shn; rw [m.2.1]; exact sub_cc _ _ _]
    show BX10_seen_64 N (LX10_seen_64 N f) M 0 _ _ _ _ = _
    unfold BX10_seen_64
    simp only [h.q0, h.q6, h.f7, q5, R_size h.w7, R_at h.w7, lg_nI (show i < 2 ^ 31 by omega), R_near w5 hN, en, Option.bind_some, gd, nI_1]
    rw [if_neg (nI_ge hi (by omega))]
    have es : snV (g0 σ) bar l w (i + 1) = if snB (g0 σ) bar l w i = true then snV (g0 σ) bar l w i ||| ((1 : Int32) <<< (nI i &&& 31)) else snV (g0 σ) bar l w i := rfl
    rw [es] at q
    by_cases z : snB (g0 σ) bar l w i = true
    · rw [if_pos z]
      rw [if_pos z] at q
      exact q
    · rw [if_neg z]
      rw [if_neg z] at q
      exact q
theorem C_seen {N : Nat} {M : Mm} {σ : Sg} (h : RelC M σ) (hI : Ig σ) (hN : 2000 ≤ N) (bar l w : Int32) : DoC M (fX10_seen N M 0 bar l w) (sp_seen σ bar l w) := by
  have J := DoC.er h (a := 1) 1 rfl (by decide)
  have hb6 : (sr (g0 σ) 1).length ≤ 6 := hI.1.L 1 (by decide)
  have hl : (sr (g0 σ) 7).length ≤ 10 := hI.1.L 7 (by decide)
  unfold fX10_seen sp_seen jX10_seen_22
  simp only [h.c, C_isBar h, C_isLine, C_isWindow, Option.bind_some, gd]
  by_cases g : isB (g0 σ) bar ∧ wi l 0 999 ∧ wi w 0 50
  · rw [if_pos g, if_pos g.1, if_pos g.2.1, if_pos g.2.2]
    obtain ⟨b, hb, rfl⟩ := (wi_n (by omega)).mp g.1
    obtain ⟨M1, M2, a1, a2, a3, a4, a5, a6⟩ := C_hk (N := N) (t := 109) h hI (Or.inr (Or.inr rfl)) hN hb l
    have q := C_seenL (N := N) (w := w) a4 hI hN a5 (sr (g0 σ) 7).length 0 N (by omega) (by omega)
    simp only [h.q0, h.q6, a1, a2.q6, a3, a4.q0, N_clock a4.2.1, Option.bind_some]
    exact ⟨M2, q, a4, a6⟩
  · rw [if_neg g]
    by_cases g1 : isB (g0 σ) bar
    · rw [if_pos g1]
      by_cases g2 : wi l 0 999
      · rw [if_pos g2, if_neg (fun q => g ⟨g1, g2, q⟩)]; exact J
      · rw [if_neg g2]; exact J
    · rw [if_neg g1]; exact J
theorem T_isNear {M : Mm} {F : Nat → Int32} {A : Nat → Nat → Int32} {σ : Sg} (h : TwAt M F A) (r : TwR F A σ) (hI : Ig σ) {i k : Nat} (hi : i < (sr (g0 σ) 2).length) (hk : k < (sr (g0 σ) 7).length) (w : Int32) : fX11_isNear M 137 (nI i) (nI k) w = some (if ¬ w < ab ((sr (g0 σ) 3).getD i 0 - (sr (g0 σ) 7).getD k 0) then 1 else 0) := by
  have hl : (sr (g0 σ) 7).length ≤ 10 := hI.1.L 7 (by decide)
  have e1 : fX11_ring M 137 (nI i) 1 = some ((sr (g0 σ) 3).getD i 0) := T_rg h r hI hi (w := 1) (by decide)
  have a1 := r.1.2.1 7 (by decide) k hk
  have t1 : tix 7 k = 372 + k := by show 372 + 1 * k = _; omega
  rw [t1] at a1
  simp only [fX11_isNear, T_c h, T_q0 h, e1, show (372 : Int32) + nI k = nI (372 + k) from nI_add 372 k, T_m h (show 372 + k < 950 by omega), a1, T_size, Option.bind_some]
  by_cases z : w < ab ((sr (g0 σ) 3).getD i 0 - (sr (g0 σ) 7).getD k 0)
  · rw [if_pos z, if_neg (fun q => q z)]
  · rw [if_neg z, if_pos z]
theorem T_seenI {N : Nat} {K : Mm → Nat → Int32 → Int32 → Int32 → Int32 → Int32 → Option (Int32 × Mm)} {M : Mm} {F : Nat → Int32} {A : Nat → Nat → Int32} {σ : Sg} {bar l w x : Int32} (h : TwAt M F A) (r : TwR F A σ) (hd : RdA A (g0 σ) (sr (g0 σ) 2).length) (hI : Ig σ) {j : Nat} (hj : j < (sr (g0 σ) 7).length) : ∀ (k i f : Nat), i + k = (sr (g0 σ) 2).length → k < f → LX11_seen_52 N K f M 137 bar l w (if (List.range i).any (fun r => decide ((sr (g0 σ) 2).getD r 0 = bar ∧ cnt (g0 σ) l r) && decide (¬ w < ab ((sr (g0 σ) 3).getD r 0 - (sr (g0 σ) 7).getD j 0))) = true then x ||| ((1 : Int32) <<< (nI j &&& 31)) else x) (nI j) (nI i) = K M 137 bar l w (if snB (g0 σ) bar l w j = true then x ||| ((1 : Int32) <<< (nI j &&& 31)) else x) (nI (j + 1)) := by
  have hl : (sr (g0 σ) 2).length ≤ 96 := hI.1.L 2 (by decide)
  intro k
  induction k with
  | zero =>
    intro i f hk hf
    obtain ⟨f, rfl⟩ : ∃ g, f = g + 1 := ⟨f - 1, by omega⟩
    have e : i = (sr (g0 σ) 2).length := by omega
    subst e
    show BX11_seen_52 N K (LX11_seen_52 N K f) M 137 _ _ _ _ _ _ = _
    unfold BX11_seen_52
    simp only [T_q0 h, (T_cnt h r).2.1, Option.bind_some, nI_1]
    rw [if_pos (nI_le (Nat.le_refl _) (by omega))]
    unfold snB
    rw [ctd_any]
  | succ k ih =>
    intro i f hk hf
    obtain ⟨f, rfl⟩ : ∃ g, f = g + 1 := ⟨f - 1, by omega⟩
    have hi : i < (sr (g0 σ) 2).length := by omega
    have q := ih (i + 1) f (by omega) (by omega)
    rw [any_s] at q
    have z0 : ∀ y : Int32, y ||| 0 = y := fun y => Int32.or_zero
    show BX11_seen_52 N K (LX11_seen_52 N K f) M 137 _ _ _ _ _ _ = _
    unfold BX11_seen_52
    simp only [T_q0 h, (T_cnt h r).2.1, T_isCounted h r hd hI hi, T_isNear h r hI hi hj, Option.bind_some, nI_1, gd, z0]
    rw [if_neg (nI_ge hi (by omega))]
    generalize (List.range i).any (fun r => decide ((sr (g0 σ) 2).getD r 0 = bar ∧ cnt (g0 σ) l r) && decide (¬ w < ab ((sr (g0 σ) 3).getD r 0 - (sr (g0 σ) 7).getD j 0))) = B at q ⊢
    by_cases z : (sr (g0 σ) 2).getD i 0 = bar ∧ cnt (g0 σ) l i
    · rw [if_pos z]
      by_cases y : ¬ w < ab ((sr (g0 σ) 3).getD i 0 - (sr (g0 σ) 7).getD j 0)
      · rw [if_pos y]
        rw [decide_eq_true z, decide_eq_true y, Bool.true_and, Bool.or_true, if_pos rfl] at q
        cases B
        · exact q
        · rw [if_pos rfl, Int32.or_assoc, Int32.or_self]; exact q
      · rw [if_neg y]
        rw [decide_eq_false y, Bool.and_false, Bool.or_false] at q
        exact q
    · rw [if_neg z]
      rw [decide_eq_false z, Bool.false_and, Bool.or_false] at q
      exact q
theorem T_seenL {N : Nat} {M : Mm} {F : Nat → Int32} {A : Nat → Nat → Int32} {σ : Sg} {bar l w : Int32} (h : TwAt M F A) (r : TwR F A σ) (hd : RdA A (g0 σ) (sr (g0 σ) 2).length) (hI : Ig σ) (hN : 2000 ≤ N) : ∀ (k i f : Nat), i + k = (sr (g0 σ) 7).length → k < f → LX11_seen_38 N f M 137 bar l w (snV (g0 σ) bar l w i) (nI i) = some (snV (g0 σ) bar l w (sr (g0 σ) 7).length, M) := by
  have hl : (sr (g0 σ) 2).length ≤ 96 := hI.1.L 2 (by decide)
  have hl7 : (sr (g0 σ) 7).length ≤ 10 := hI.1.L 7 (by decide)
  intro k
  induction k with
  | zero =>
    intro i f hk hf
    obtain ⟨f, rfl⟩ : ∃ g, f = g + 1 := ⟨f - 1, by omega⟩
    have e : i = (sr (g0 σ) 7).length := by omega
    subst e
    show BX11_seen_38 N (LX11_seen_38 N f) M 137 _ _ _ _ _ = _
    unfold BX11_seen_38
    simp only [T_q0 h, (T_cnt h r).2.2.2.2.1, Option.bind_some]
    rw [if_pos (nI_le (Nat.le_refl _) (by omega))]
  | succ k ih =>
    intro i f hk hf
    obtain ⟨f, rfl⟩ : ∃ g, f = g + 1 := ⟨f - 1, by omega⟩
    have hi : i < (sr (g0 σ) 7).length := by omega
    have q := ih (i + 1) f (by omega) (by omega)
    have w1 := T_seenI (N := N) (K := LX11_seen_38 N f) (bar := bar) (l := l) (w := w) (x := snV (g0 σ) bar l w i) h r hd hI hi (sr (g0 σ) 2).length 0 N (by omega) (by omega)
    show BX11_seen_38 N (LX11_seen_38 N f) M 137 _ _ _ _ _ = _
    unfold BX11_seen_38
    simp only [T_q0 h, (T_cnt h r).2.2.2.2.1, Option.bind_some]
    rw [if_neg (nI_ge hi (by omega))]
    exact w1.trans q
theorem T_seen {N : Nat} {M : Mm} {σ : Sg} (h : RelT M σ) (hI : Ig σ) (hN : 2000 ≤ N) (bar l w : Int32) : DoT M (fX11_seen N M 137 bar l w) (sp_seen σ bar l w) := by
  obtain ⟨F, A, k1, k2⟩ := id h
  have J := DoT.er h hI.2.2.1 (a := 1) 1 rfl (by decide)
  have hl7 : (sr (g0 σ) 7).length ≤ 10 := hI.1.L 7 (by decide)
  unfold fX11_seen sp_seen jX11_seen_22
  simp only [T_c k1, T_isBar k1 k2, T_isLine, T_isWindow, Option.bind_some, gd]
  by_cases g : isB (g0 σ) bar ∧ wi l 0 999 ∧ wi w 0 50
  · rw [if_pos g, if_pos g.1, if_pos g.2.1, if_pos g.2.2]
    obtain ⟨M1, F1, A1, a1, a2, a3, a4, a5⟩ := T_readAll (N := N) h hI hN
    have q := T_seenL (N := N) (bar := bar) (l := l) (w := w) a2 a3 a4 hI hN (sr (g0 σ) 7).length 0 N (by omega) (by omega)
    simp only [a1, Option.bind_some]
    exact ⟨M1, q, ⟨F1, A1, a2, a3⟩, a5⟩
  · rw [if_neg g]
    by_cases g1 : isB (g0 σ) bar
    · rw [if_pos g1]
      by_cases g2 : wi l 0 999
      · rw [if_pos g2, if_neg (fun q => g ⟨g1, g2, q⟩)]; exact J
      · rw [if_neg g2]; exact J
    · rw [if_neg g1]; exact J
theorem I_seen {σ : Sg} (h : Ig σ) (bar l w : Int32) : Ig (sp_seen σ bar l w).2 := by
  unfold sp_seen
  by_cases g : isB (g0 σ) bar ∧ wi l 0 999 ∧ wi w 0 50
  · rw [if_pos g]; exact h
  · rw [if_neg g]; exact h.er 1
