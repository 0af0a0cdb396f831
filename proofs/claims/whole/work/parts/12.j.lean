/-! text in the reference: the cells -/
theorem TwR.f {F F' : Nat → Int32} {A : Nat → Nat → Int32} {σ : Sg} (h : TwR F A σ) (h2 : F' 2 = F 2) (h21 : F' 21 = F 21) : TwR F' A σ := by
  unfold TwR
  rw [h2, h21]
  exact h
def RdT (M : Mm) (σ : Sg) (u p : Nat) (cs : List Int32) (op : Nat) : Prop := ∃ F A, TwAt M F A ∧ TwR F A σ ∧ F 10 = nI cs.length ∧ F 11 = nI p ∧ F 12 = nI op ∧ F 13 = nI u ∧ F 14 = 0 ∧ ∀ k, k < cs.length → A 8 k = tw (cs.getD k 0)
def RbT (M : Mm) (σ : Sg) (u p op : Nat) : Prop := ∃ F A, TwAt M F A ∧ TwR F A σ ∧ F 11 = nI p ∧ F 12 = nI op ∧ F 13 = nI u ∧ F 14 = 1
def Rt (M : Mm) (σ : Sg) (u op : Nat) (x : Option Mm) (r : Rs) : Prop := ∃ M', x = some M' ∧ (r.1 = true → RdT M' σ u r.2.1 r.2.2 op) ∧ (¬ r.1 = true → RbT M' σ u r.2.1 op) ∧ FrT M M'
section RTS
variable {M : Mm} {σ : Sg} {u p op : Nat} {cs : List Int32}
theorem RdT.c (h : RdT M σ u p cs op) : gC M 11 137 = some 137 := by
  obtain ⟨F, A, h1, -⟩ := h
  exact T_c h1
theorem RbT.c (h : RbT M σ u p op) : gC M 11 137 = some 137 := by
  obtain ⟨F, A, h1, -⟩ := h
  exact T_c h1
theorem RdT.i (h : RdT M σ u p cs op) : gI M 11 137 10 = some (nI cs.length) ∧ gI M 11 137 11 = some (nI p) ∧ gI M 11 137 12 = some (nI op) ∧ gI M 11 137 13 = some (nI u) ∧ gI M 11 137 14 = some 0 := by
  obtain ⟨F, A, h1, -, a1, a2, a3, a4, a5, -⟩ := h
  exact ⟨by rw [← a1]; exact T_int h1 rfl, by rw [← a2]; exact T_int h1 rfl, by rw [← a3]; exact T_int h1 rfl, by rw [← a4]; exact T_int h1 rfl, by rw [← a5]; exact T_int h1 rfl⟩
theorem RbT.i (h : RbT M σ u p op) : gI M 11 137 11 = some (nI p) ∧ gI M 11 137 12 = some (nI op) ∧ gI M 11 137 14 = some 1 := by
  obtain ⟨F, A, h1, -, a2, a3, a4, a5⟩ := h
  exact ⟨by rw [← a2]; exact T_int h1 rfl, by rw [← a3]; exact T_int h1 rfl, by rw [← a5]; exact T_int h1 rfl⟩
theorem RdT.adv (h : RdT M σ u p cs op) : ∃ M', pF M 11 137 11 (.int (nI (p + 1))) = some M' ∧ RdT M' σ u (p + 1) cs op ∧ FrT M M' := by
  obtain ⟨F, A, h1, h2, a1, a2, a3, a4, a5, a6⟩ := h
  obtain ⟨M1, b1, b2, b3⟩ := T_set h1 (k := 11) (nI (p + 1)) rfl (by decide)
  exact ⟨M1, b1, ⟨_, A, b2, h2.f (pk_un (by decide)) (pk_un (by decide)), by rw [← a1]; exact pk_un (by decide), pk_us, by rw [← a3]; exact pk_un (by decide), by rw [← a4]; exact pk_un (by decide), by rw [← a5]; exact pk_un (by decide), a6⟩, b3⟩
theorem RdT.op' (h : RdT M σ u p cs op) (q : Nat) : ∃ M', pF M 11 137 12 (.int (nI q)) = some M' ∧ RdT M' σ u p cs q ∧ FrT M M' := by
  obtain ⟨F, A, h1, h2, a1, a2, a3, a4, a5, a6⟩ := h
  obtain ⟨M1, b1, b2, b3⟩ := T_set h1 (k := 12) (nI q) rfl (by decide)
  exact ⟨M1, b1, ⟨_, A, b2, h2.f (pk_un (by decide)) (pk_un (by decide)), by rw [← a1]; exact pk_un (by decide), by rw [← a2]; exact pk_un (by decide), pk_us, by rw [← a4]; exact pk_un (by decide), by rw [← a5]; exact pk_un (by decide), a6⟩, b3⟩
theorem RbT.op' (h : RbT M σ u p op) (q : Nat) : ∃ M', pF M 11 137 12 (.int (nI q)) = some M' ∧ RbT M' σ u p q ∧ FrT M M' := by
  obtain ⟨F, A, h1, h2, a2, a3, a4, a5⟩ := h
  obtain ⟨M1, b1, b2, b3⟩ := T_set h1 (k := 12) (nI q) rfl (by decide)
  exact ⟨M1, b1, ⟨_, A, b2, h2.f (pk_un (by decide)) (pk_un (by decide)), by rw [← a2]; exact pk_un (by decide), pk_us, by rw [← a4]; exact pk_un (by decide), by rw [← a5]; exact pk_un (by decide)⟩, b3⟩
theorem RdT.bad (h : RdT M σ u p cs op) : ∃ M', pF M 11 137 14 (.int 1) = some M' ∧ RbT M' σ u p op ∧ FrT M M' := by
  obtain ⟨F, A, h1, h2, a1, a2, a3, a4, a5, a6⟩ := h
  obtain ⟨M1, b1, b2, b3⟩ := T_set h1 (k := 14) 1 rfl (by decide)
  exact ⟨M1, b1, ⟨_, A, b2, h2.f (pk_un (by decide)) (pk_un (by decide)), by rw [← a2]; exact pk_un (by decide), by rw [← a3]; exact pk_un (by decide), by rw [← a4]; exact pk_un (by decide), pk_us⟩, b3⟩
theorem RbT.bad (h : RbT M σ u p op) : ∃ M', pF M 11 137 14 (.int 1) = some M' ∧ RbT M' σ u p op ∧ FrT M M' := by
  obtain ⟨F, A, h1, h2, a2, a3, a4, a5⟩ := h
  obtain ⟨M1, b1, b2, b3⟩ := T_set h1 (k := 14) 1 rfl (by decide)
  exact ⟨M1, b1, ⟨_, A, b2, h2.f (pk_un (by decide)) (pk_un (by decide)), by rw [← a2]; exact pk_un (by decide), by rw [← a3]; exact pk_un (by decide), by rw [← a4]; exact pk_un (by decide), pk_us⟩, b3⟩
theorem RdT.good (h : RdT M σ u p cs op) : ∃ M', pF M 11 137 14 (.int 0) = some M' ∧ RdT M' σ u p cs op ∧ FrT M M' := by
  obtain ⟨F, A, h1, h2, a1, a2, a3, a4, a5, a6⟩ := h
  obtain ⟨M1, b1, b2, b3⟩ := T_set h1 (k := 14) 0 rfl (by decide)
  exact ⟨M1, b1, ⟨_, A, b2, h2.f (pk_un (by decide)) (pk_un (by decide)), by rw [← a1]; exact pk_un (by decide), by rw [← a2]; exact pk_un (by decide), by rw [← a3]; exact pk_un (by decide), by rw [← a4]; exact pk_un (by decide), pk_us, a6⟩, b3⟩
theorem T_here (h : RdT M σ u p cs op) (hI : Ig σ) (hp : p ≤ (sr (g0 σ) 5).length) : fX11_here M 137 = some (nx (sr (g0 σ) 5) p) := by
  have h50 : (sr (g0 σ) 5).length ≤ 50 := hI.1.L 5 (by decide)
  obtain ⟨i1, i2, i3, i4, i5⟩ := h.i
  obtain ⟨F, A, h1, h2, -⟩ := id h
  simp only [fX11_here, h.c, i5, i2, T_q0 h1, (T_cnt h1 h2).2.2.2.2.2.2.1, Option.bind_some, if_true]
  by_cases z : p < (sr (g0 σ) 5).length
  · rw [if_neg (nI_ge z (by omega)), nx_at z]
    have t1 := h2.1.2.1 5 (by decide) p z
    rw [show tix 5 p = 412 + p from by show 412 + 1 * p = _; omega] at t1
    rw [show (412 : Int32) + nI p = nI (412 + p) from nI_add 412 p, T_m h1 (by omega), t1]
    rfl
  · rw [if_pos (nI_le (by omega) (by omega)), show nx (sr (g0 σ) 5) p = -1 from if_neg z]
theorem T_hereB (h : RbT M σ u p op) : fX11_here M 137 = some (-1) := by
  simp only [fX11_here, h.c, h.i.2.2, Option.bind_some]
  rw [if_neg (by decide)]
theorem T_puts (h : RdT M σ u p cs op) (hl : cs.length < 50) {v c : Int32} (hv : v = tw c) : ∃ M', fX11_puts M 137 v = some M' ∧ RdT M' σ u p (cs ++ [c]) op ∧ FrT M M' := by
  obtain ⟨i1, i2, i3, i4, i5⟩ := h.i
  obtain ⟨F, A, h1, h2, a1, a2, a3, a4, a5, a6⟩ := id h
  have q9 : gQ M 11 137 9 = some 146 := T_ref h1 rfl
  obtain ⟨M1, b1, b2, b3⟩ := T_put h1 8 (by decide) (j := cs.length) (show cs.length < 50 from hl) v
  have b1' : sI M 0 146 (nI cs.length) v = some M1 := b1
  have i1' : gI M1 11 137 10 = some (nI cs.length) := by rw [← a1]; exact T_int b2 rfl
  obtain ⟨M2, c1, c2, c3⟩ := T_set b2 (k := 10) (nI (cs.length + 1)) rfl (by decide)
  refine ⟨M2, ?_, ⟨_, _, c2, (h2.s (A' := u2 A 8 cs.length v) rfl rfl rfl rfl rfl rfl rfl).f (pk_un (by decide)) (pk_un (by decide)), ?_, by rw [← a2]; exact pk_un (by decide), by rw [← a3]; exact pk_un (by decide), by rw [← a4]; exact pk_un (by decide), by rw [← a5]; exact pk_un (by decide), fun k hk => ?_⟩, b3.trans c3⟩
  · simp only [fX11_puts, h.c, i5, q9, i1, b1', i1', nI_1, c1, Option.bind_some, if_true]
  · rw [List.length_append]; exact pk_us
  · show upd (A 8) cs.length v k = _
    rw [getD_app]
    by_cases e : k = cs.length
    · subst e; rw [pk_us, if_pos rfl, hv]
    · rw [pk_un e, if_neg e]
      exact a6 k (by simp at hk; omega)
theorem T_putsB (h : RbT M σ u p op) (v : Int32) : fX11_puts M 137 v = some M := by
  simp only [fX11_puts, h.c, h.i.2.2, Option.bind_some]
  rw [if_neg (by decide)]
theorem T_isH (h : RdT M σ u p cs op) (hI : Ig σ) (hp : p ≤ (sr (g0 σ) 5).length) (c : Int32) : (nx (sr (g0 σ) 5) p = c → ∃ M', fX11_isHere M 137 c = some (1, M') ∧ RdT M' σ u (p + 1) cs op ∧ FrT M M') ∧ (¬ nx (sr (g0 σ) 5) p = c → fX11_isHere M 137 c = some (0, M)) := by
  constructor
  · intro z
    obtain ⟨M1, a1, a2, a3⟩ := h.adv
    refine ⟨M1, ?_, a2, a3⟩
    simp only [fX11_isHere, h.c, T_here h hI hp, Option.bind_some]
    rw [if_pos z, h.i.2.1, Option.bind_some, nI_1, a1]
    rfl
  · intro z
    simp only [fX11_isHere, h.c, T_here h hI hp, Option.bind_some]
    rw [if_neg z]
theorem T_isHB (h : RbT M σ u p op) {c : Int32} (hc : c ≠ -1) : fX11_isHere M 137 c = some (0, M) := by
  simp only [fX11_isHere, h.c, T_hereB h, Option.bind_some]
  rw [if_neg (fun e => hc e.symm)]
end RTS
theorem tw_sg : ∀ level, level < 5 → ∀ c ∈ sgn level, (20000 : Int32) + c = tw (-c) ∧ c ≠ -1 := by decide
/-! the loops: while a sign of this level is next -/
section LP
variable {N : Nat} {σ : Sg} {u op : Nat} {f : Ps → Rs} {q0 q1 q2 q3 q4 q5 : Mm → Nat → Option Mm}
theorem T_prod (hI : Ig σ) (hf : SubG (sr (g0 σ) 5) u f) (hq : ∀ M p cs, p ≤ (sr (g0 σ) 5).length → cs.length ≤ p → cs.length < 50 → RdT M σ u p cs op → Rt M σ u op (q3 M 137) (f (p, cs))) : ∀ (k g p : Nat) (M : Mm) (cs : List Int32), (sr (g0 σ) 5).length - p < k → k < g → p ≤ (sr (g0 σ) 5).length → cs.length ≤ p → RdT M σ u p cs op → Rt M σ u op (LX11_product_9 q0 q1 q2 q3 q4 q5 N g M 137 (nx (sr (g0 σ) 5) p)) (lp (sr (g0 σ) 5) f 4 k (p, cs)) := by
  have h50 : (sr (g0 σ) 5).length ≤ 50 := hI.1.L 5 (by decide)
  have B : ∀ K M (c : Int32), BX11_product_9 q0 q1 q2 q3 q4 q5 N K M 137 c = if c ∈ sgn 4 then jX11_product_27 q0 q1 q2 q3 q4 q5 N K M 137 c else some M := by
    intro K M c
    unfold BX11_product_9
    by_cases z1 : c = 42
    · subst z1; rfl
    by_cases z2 : c = 47
    · subst z2; rfl
    by_cases z3 : c = 37
    · subst z3; rfl
    rw [if_neg z1, if_neg z2, if_neg z3, if_neg]
    intro w
    rcases List.mem_cons.mp w with w | w
    · exact z1 w
    rcases List.mem_cons.mp w with w | w
    · exact z2 w
    · exact z3 (List.mem_singleton.mp w)
  intro k
  induction k with
  | zero => intro g p M cs hk; omega
  | succ k ih =>
    intro g p M cs hk hg hp hc h
    obtain ⟨g, rfl⟩ : ∃ j, g = j + 1 := ⟨g - 1, by omega⟩
    show Rt M σ u op (BX11_product_9 q0 q1 q2 q3 q4 q5 N (LX11_product_9 q0 q1 q2 q3 q4 q5 N g) M 137 _) _
    rw [B]
    unfold lp
    by_cases z : nx (sr (g0 σ) 5) p ∈ sgn 4
    · rw [if_pos z, if_pos z]
      obtain ⟨w1, w2⟩ := tw_sg 4 (by decide) _ z
      have hp1 := nx_in z (sgn_m1 4 (by decide))
      obtain ⟨M1, a1, a2, a3⟩ := h.adv
      obtain ⟨M2, b1, b2, b3, b4⟩ := hq M1 (p + 1) cs (by omega) (by omega) (by omega) a2
      have G := hf (p + 1) cs (by omega)
      unfold jX11_product_27
      rw [h.i.2.1, Option.bind_some, nI_1, a1, Option.bind_some, b1, Option.bind_some]
      generalize f (p + 1, cs) = r at b2 b3 G ⊢
      obtain ⟨g1, g2, g3⟩ := G
      by_cases y : r.1 = true
      · rw [if_pos y, if_neg (by decide)]
        obtain ⟨g4, es, g5, g6, g7⟩ := g3 y
        have d2 := b2 y
        have l1 : r.2.2.length < 50 := by rw [g5]; simp; omega
        obtain ⟨M3, c1, c2, c3⟩ := T_puts d2 l1 (c := -nx (sr (g0 σ) 5) p) w1
        rw [c1, Option.bind_some, T_here c2 hI g1, Option.bind_some]
        obtain ⟨M4, e1, e2, e3, e4⟩ := ih g r.2.1 M3 (r.2.2 ++ [-nx (sr (g0 σ) 5) p]) (by omega) (by omega) g1 (by rw [g5]; simp; omega) c2
        exact ⟨M4, e1, e2, e3, ((a3.trans b4).trans c3).trans e4⟩
      · rw [if_neg y]
        have d2 := b3 y
        rw [T_putsB d2, Option.bind_some, T_hereB d2, Option.bind_some]
        obtain ⟨g', rfl⟩ : ∃ j, g = j + 1 := ⟨g - 1, by omega⟩
        show Rt M σ u op (BX11_product_9 q0 q1 q2 q3 q4 q5 N (LX11_product_9 q0 q1 q2 q3 q4 q5 N g') M2 137 _) _
        rw [B, if_neg (sgn_m1 4 (by decide))]
        exact ⟨M2, rfl, fun w => absurd w y, fun _ => d2, a3.trans b4⟩
    · rw [if_neg z, if_neg z]
      exact ⟨M, rfl, fun _ => h, fun w => absurd rfl w, Of.rf⟩
end LP
