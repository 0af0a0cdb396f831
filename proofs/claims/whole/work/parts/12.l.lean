/-! text in the reference: one number, one name, one bracket -/
theorem nbR_le {xs : List Int32} : ∀ (k p : Nat) (v : Int32), p ≤ (nbR xs k p v).1
  | 0, p, v => Nat.le_refl _
  | k + 1, p, v => by
    unfold nbR
    by_cases z : wi (nx xs p) 48 57
    · rw [if_pos z]
      have := nbR_le (xs := xs) k (p + 1) (10 * v + nx xs p - 48)
      omega
    · rw [if_neg z]
      exact Nat.le_refl _
theorem nbR_w {xs : List Int32} {p : Nat} (hp : p ≤ xs.length) : wi (nbR xs 4 p 0).2 0 9999 := by
  obtain ⟨b, q1, q2, q3, q4⟩ := nbR_ok (xs := xs) 4 p 0 hp (by decide) (Nat.le_refl _)
  have q1' : (nbR xs 4 p 0).2 = nI b := q1
  rw [q1', wi_i, nI_toInt (by omega), show (0 : Int32).toInt = 0 from by decide, show (9999 : Int32).toInt = 9999 from by decide]; omega
theorem nm_tw1 : ∀ c ∈ st_by.getD 1 [], (10000 : Int32) + nI ((st_by.getD 1 []).idxOf c) = tw (-1 - nI ((st_by.getD 1 []).idxOf c)) ∧ ¬ nI ((st_by.getD 1 []).idxOf c) < 0 ∧ ¬ wi c 48 57 := by decide
theorem nm_tw2 : ∀ c ∈ st_by.getD 2 [], (10000 : Int32) + nI ((st_by.getD 2 []).idxOf c) = tw (-1 - nI ((st_by.getD 2 []).idxOf c)) ∧ ¬ nI ((st_by.getD 2 []).idxOf c) < 0 ∧ ¬ wi c 48 57 := by decide
theorem nm_tw (u : Nat) : ∀ c ∈ nms u, (10000 : Int32) + nI ((nms u).idxOf c) = tw (-1 - nI ((nms u).idxOf c)) ∧ ¬ nI ((nms u).idxOf c) < 0 ∧ ¬ wi c 48 57 := by
  unfold nms nmI
  by_cases h : u < 3
  · rw [if_pos h]; exact nm_tw1
  · rw [if_neg h]; exact nm_tw2
theorem nm_no (u : Nat) : (33 : Int32) ∉ nms u ∧ (40 : Int32) ∉ nms u := by
  unfold nms nmI
  by_cases h : u < 3
  · rw [if_pos h]; decide
  · rw [if_neg h]; decide
theorem T_nm (M : Mm) {u : Nat} (hu : u ≤ 8) (c : Int32) : fX11_nameOf M (nI u) c = some (if c ∈ nms u then nI ((nms u).idxOf c) else -1) := by
  unfold fX11_nameOf nms nmI
  by_cases h : u < 3
  · rw [if_pos h, if_pos (show nI u ≤ (2 : Int32) from nI_le (b := 2) (by omega) (by decide))]
    by_cases z1 : c = 104
    · subst z1; rfl
    by_cases z2 : c = 103
    · subst z2; rfl
    by_cases z3 : c = 116
    · subst z3; rfl
    by_cases z4 : c = 98
    · subst z4; rfl
    rw [if_neg z1, if_neg z2, if_neg z3, if_neg z4, if_neg]
    intro w
    rcases List.mem_cons.mp w with w | w
    · exact z1 w
    rcases List.mem_cons.mp w with w | w
    · exact z2 w
    rcases List.mem_cons.mp w with w | w
    · exact z3 w
    · exact z4 (List.mem_singleton.mp w)
  · rw [if_neg h, if_neg (show ¬ nI u ≤ (2 : Int32) from nI_ge (b := u) (a := 2) (by omega) (by omega))]
    by_cases z1 : c = 110
    · subst z1; rfl
    by_cases z2 : c = 121
    · subst z2; rfl
    rw [if_neg z1, if_neg z2, if_neg]
    intro w
    rcases List.mem_cons.mp w with w | w
    · exact z1 w
    · exact z2 (List.mem_singleton.mp w)
theorem T_dg {M : Mm} {x : Int32} : fX11_in M x.toInt64 48 57 = some (if wi x 48 57 then 1 else 0) := T_in M (by decide) (by decide)
section ON
variable {N : Nat} {σ : Sg} {u op : Nat} {q0 q1 q2 q3 q4 q5 : Mm → Nat → Option Mm}
theorem T_numL (hI : Ig σ) {cs : List Int32} (hl : cs.length < 50) : ∀ (k g p : Nat) (M : Mm) (v : Int32), k ≤ 4 → k < g → p ≤ (sr (g0 σ) 5).length → wi (nbR (sr (g0 σ) 5) k p v).2 0 9999 → RdT M σ u p cs op → ∃ M', LX11_one_23 q0 q1 q2 q3 q4 q5 N g M 137 v (nI (4 - k)) = some M' ∧ RdT M' σ u (nbR (sr (g0 σ) 5) k p v).1 (cs ++ [(nbR (sr (g0 σ) 5) k p v).2]) op ∧ FrT M M' := by
  have J : ∀ (M : Mm) (p : Nat) (v : Int32), wi v 0 9999 → RdT M σ u p cs op → ∃ M', jX11_one_74 q0 q1 q2 q3 q4 q5 N M 137 v = some M' ∧ RdT M' σ u p (cs ++ [v]) op ∧ FrT M M' := by
    intro M p v hv h
    obtain ⟨M1, a1, a2, a3⟩ := T_puts h hl (v := v) (c := v) (tw_num hv).1.symm
    refine ⟨M1, ?_, a2, a3⟩
    unfold jX11_one_74
    rw [a1]; rfl
  intro k
  induction k with
  | zero =>
    intro g p M v hk hg hp hw h
    obtain ⟨g, rfl⟩ : ∃ j, g = j + 1 := ⟨g - 1, by omega⟩
    show ∃ M', BX11_one_23 q0 q1 q2 q3 q4 q5 N (LX11_one_23 q0 q1 q2 q3 q4 q5 N g) M 137 v (nI 4) = some M' ∧ _
    unfold BX11_one_23
    rw [if_pos (by decide)]
    exact J M p v hw h
  | succ k ih =>
    intro g p M v hk hg hp hw h
    obtain ⟨g, rfl⟩ : ∃ j, g = j + 1 := ⟨g - 1, by omega⟩
    have e : nbR (sr (g0 σ) 5) (k + 1) p v = if wi (nx (sr (g0 σ) 5) p) 48 57 then nbR (sr (g0 σ) 5) k (p + 1) (10 * v + nx (sr (g0 σ) 5) p - 48) else (p, v) := rfl
    show ∃ M', BX11_one_23 q0 q1 q2 q3 q4 q5 N (LX11_one_23 q0 q1 q2 q3 q4 q5 N g) M 137 v (nI (4 - (k + 1))) = some M' ∧ _
    unfold BX11_one_23
    rw [if_neg (show ¬ (4 : Int32) ≤ nI (4 - (k + 1)) from nI_ge (b := 4) (by omega) (by decide)), T_here h hI hp, Option.bind_some, T_dg, Option.bind_some]
    by_cases z : wi (nx (sr (g0 σ) 5) p) 48 57
    · rw [if_pos z, if_neg (by decide), Option.bind_some, h.i.2.1, Option.bind_some, nI_1]
      rw [e, if_pos z] at hw ⊢
      have hp1 : p < (sr (g0 σ) 5).length := by
        by_cases y : p < (sr (g0 σ) 5).length
        · exact y
        · rw [show nx (sr (g0 σ) 5) p = -1 from if_neg y] at z
          exact absurd z (by decide)
      obtain ⟨M1, a1, a2, a3⟩ := h.adv
      obtain ⟨M2, b1, b2, b3⟩ := ih g (p + 1) M1 (10 * v + nx (sr (g0 σ) 5) p - 48) (by omega) (by omega) (by omega) hw a2
      refine ⟨M2, ?_, b2, a3.trans b3⟩
      rw [a1, Option.bind_some, nI_1, show 4 - (k + 1) + 1 = 4 - k by omega]
      exact b1
    · rw [if_neg z, if_pos rfl]
      rw [e, if_neg z] at hw ⊢
      exact J M p v hw h
theorem T_bas (hI : Ig σ) (hN : 2000 ≤ N) (hu : u ≤ 8) {M : Mm} {p : Nat} {cs : List Int32} (hp : p ≤ (sr (g0 σ) 5).length) (hl : cs.length < 50) (h : RdT M σ u p cs op) (n1 : ¬ nx (sr (g0 σ) 5) p = 33) (n2 : ¬ nx (sr (g0 σ) 5) p = 40) : Rt M σ u op (FX11_one q0 q1 q2 q3 q4 q5 N M 137) (bas (sr (g0 σ) 5) u (p, cs)) := by
  have e : nbR (sr (g0 σ) 5) 4 p 0 = if wi (nx (sr (g0 σ) 5) p) 48 57 then nbR (sr (g0 σ) 5) 3 (p + 1) (10 * 0 + nx (sr (g0 σ) 5) p - 48) else (p, 0) := rfl
  unfold FX11_one
  rw [h.c, Option.bind_some, T_here h hI hp, Option.bind_some, T_dg, Option.bind_some]
  unfold bas
  by_cases z : wi (nx (sr (g0 σ) 5) p) 48 57
  · rw [if_pos z, if_neg (by decide), if_neg (fun w => (nm_tw u _ w).2.2 z)]
    unfold num
    have l1 := nbR_le (xs := sr (g0 σ) 5) 3 (p + 1) (10 * 0 + nx (sr (g0 σ) 5) p - 48)
    rw [if_neg (show ¬ (nbR (sr (g0 σ) 5) 4 p 0).1 = p from by rw [e, if_pos z]; omega)]
    obtain ⟨M1, a1, a2, a3⟩ := T_numL (N := N) (q0 := q0) (q1 := q1) (q2 := q2) (q3 := q3) (q4 := q4) (q5 := q5) hI hl 4 N p M 0 (Nat.le_refl _) (by omega) hp (nbR_w hp) h
    exact ⟨M1, a1, fun _ => a2, fun w => absurd rfl w, a3⟩
  · rw [if_neg z, if_pos rfl, h.i.2.2.2.1, Option.bind_some, T_nm M hu, Option.bind_some]
    by_cases y : nx (sr (g0 σ) 5) p ∈ nms u
    · obtain ⟨t1, t2, t3⟩ := nm_tw u _ y
      rw [if_pos y, if_pos y, if_neg t2, h.i.2.1, Option.bind_some, nI_1]
      obtain ⟨M1, a1, a2, a3⟩ := h.adv
      obtain ⟨M2, b1, b2, b3⟩ := T_puts a2 hl t1
      rw [a1, Option.bind_some, a2.i.2.2.2.1, Option.bind_some, T_nm M1 hu, Option.bind_some, if_pos y, b1, Option.bind_some]
      exact ⟨M2, rfl, fun _ => b2, fun w => absurd rfl w, a3.trans b3⟩
    · rw [if_neg y, if_neg y, if_pos (by decide), if_neg n1, if_neg n2]
      unfold num
      rw [if_pos (show (nbR (sr (g0 σ) 5) 4 p 0).1 = p from by rw [e, if_neg z])]
      obtain ⟨M1, a1, a2, a3⟩ := h.bad
      rw [a1, Option.bind_some]
      exact ⟨M1, rfl, fun w => (by cases w), fun _ => a2, a3⟩
theorem T_brk (hI : Ig σ) (hu : u ≤ 8) {M : Mm} {p : Nat} {cs : List Int32} (hp : p ≤ (sr (g0 σ) 5).length) (h : RdT M σ u p cs op) (n1 : nx (sr (g0 σ) 5) p = 33 ∨ nx (sr (g0 σ) 5) p = 40) : FX11_one q0 q1 q2 q3 q4 q5 N M 137 = jX11_one_134 q0 q1 q2 q3 q4 q5 N M 137 (nx (sr (g0 σ) 5) p) := by
  unfold FX11_one
  rw [h.c, Option.bind_some, T_here h hI hp, Option.bind_some, T_dg, Option.bind_some, h.i.2.2.2.1, Option.bind_some, T_nm M hu, Option.bind_some]
  rcases n1 with e | e
  · rw [e, if_neg (nm_no u).1]; rfl
  · rw [e, if_neg (nm_no u).2]; rfl
theorem nI_m1 (k : Nat) : nI (k + 1) - 1 = nI k := by rw [← nI_1]; exact Int32.add_sub_cancel _ _
theorem T_opn {M : Mm} {p : Nat} {cs : List Int32} (h : RdT M σ u p cs (op + 1)) : ∃ M', jX11_one_204 q0 q1 q2 q3 q4 q5 N M 137 = some M' ∧ RdT M' σ u p cs op ∧ FrT M M' := by
  obtain ⟨M1, a1, a2, a3⟩ := h.op' op
  refine ⟨M1, ?_, a2, a3⟩
  unfold jX11_one_204
  rw [h.i.2.2.1, Option.bind_some, nI_m1, a1]; rfl
theorem T_opB {M : Mm} {p : Nat} (h : RbT M σ u p (op + 1)) : ∃ M', jX11_one_204 q0 q1 q2 q3 q4 q5 N M 137 = some M' ∧ RbT M' σ u p op ∧ FrT M M' := by
  obtain ⟨M1, a1, a2, a3⟩ := h.op' op
  refine ⟨M1, ?_, a2, a3⟩
  unfold jX11_one_204
  rw [h.i.2.1, Option.bind_some, nI_m1, a1]; rfl
theorem T_one0 (hI : Ig σ) (hN : 2000 ≤ N) (hu : u ≤ 8) {M : Mm} {p : Nat} {cs : List Int32} (hp : p ≤ (sr (g0 σ) 5).length) (hl : cs.length < 50) (h : RdT M σ u p cs 5) : Rt M σ u 5 (FX11_one q0 q1 q2 q3 q4 q5 N M 137) (opd (sr (g0 σ) 5) u 0 (p, cs)) := by
  unfold opd
  by_cases z : nx (sr (g0 σ) 5) p = 33 ∨ nx (sr (g0 σ) 5) p = 40
  · rw [if_pos z, T_brk hI hu hp h z]
    obtain ⟨M1, a1, a2, a3⟩ := h.bad
    unfold jX11_one_134
    rw [h.i.2.2.1, Option.bind_some, if_pos (by decide), a1, Option.bind_some]
    exact ⟨M1, rfl, fun w => (by cases w), fun _ => a2, a3⟩
  · rw [if_neg z]
    exact T_bas hI hN hu hp hl h (fun w => z (Or.inl w)) (fun w => z (Or.inr w))
theorem T_one1 (hI : Ig σ) (hN : 2000 ≤ N) (hu : u ≤ 8) {d : Nat} (hop : op < 5) (hq3 : ∀ M p cs, p ≤ (sr (g0 σ) 5).length → cs.length ≤ p → cs.length < 50 → RdT M σ u p cs (op + 1) → Rt M σ u (op + 1) (q3 M 137) (opd (sr (g0 σ) 5) u d (p, cs))) (hq2 : ∀ M p cs, p ≤ (sr (g0 σ) 5).length → cs.length ≤ p → cs.length < 50 → RdT M σ u p cs (op + 1) → Rt M σ u (op + 1) (q2 M 137) (lvl (sr (g0 σ) 5) (opd (sr (g0 σ) 5) u d) 5 (p, cs))) {M : Mm} {p : Nat} {cs : List Int32} (hp : p ≤ (sr (g0 σ) 5).length) (hc : cs.length ≤ p) (hl : cs.length < 50) (h : RdT M σ u p cs op) : Rt M σ u op (FX11_one q0 q1 q2 q3 q4 q5 N M 137) (opd (sr (g0 σ) 5) u (d + 1) (p, cs)) := by
  have h50 : (sr (g0 σ) 5).length ≤ 50 := hI.1.L 5 (by decide)
  have h1 := opd_ok (xs := sr (g0 σ) 5) (u := u) d
  have h2 := lvl_ok h1 5 (Nat.le_refl _)
  unfold opd
  by_cases z : nx (sr (g0 σ) 5) p = 33 ∨ nx (sr (g0 σ) 5) p = 40
  · have hp1 : p < (sr (g0 σ) 5).length := by
      rcases z with z | z
      · exact nx_eq z (by decide)
      · exact nx_eq z (by decide)
    obtain ⟨M1, a1, a2, a3⟩ := h.adv
    obtain ⟨M2, b1, b2, b3⟩ := a2.op' (op + 1)
    rw [T_brk hI hu hp h z]
    unfold jX11_one_134
    rw [h.i.2.2.1, Option.bind_some, if_neg (show ¬ (5 : Int32) ≤ nI op from nI_ge (b := 5) (by omega) (by decide)), h.i.2.1, Option.bind_some, nI_1, a1, Option.bind_some, a2.i.2.2.1, Option.bind_some, nI_1, b1, Option.bind_some]
    by_cases y : nx (sr (g0 σ) 5) p = 33
    · rw [if_pos y, if_pos y]
      obtain ⟨M3, c1, c2, c3, c4⟩ := hq3 M2 (p + 1) cs (by omega) (by omega) hl b2
      have G := h1 (p + 1) cs (by omega)
      rw [c1, Option.bind_some]
      generalize opd (sr (g0 σ) 5) u d (p + 1, cs) = r at c2 c3 G ⊢
      obtain ⟨g1, g2, g3⟩ := G
      by_cases x : r.1 = true
      · rw [if_pos x]
        obtain ⟨g4, es, g5, g6, g7⟩ := g3 x
        obtain ⟨M4, e1, e2, e3⟩ := T_puts (c2 x) (by rw [g5]; simp; omega) (v := 20033) (c := -33) (by decide)
        obtain ⟨M5, f1, f2, f3⟩ := T_opn (N := N) (q0 := q0) (q1 := q1) (q2 := q2) (q3 := q3) (q4 := q4) (q5 := q5) e2
        rw [e1, Option.bind_some, f1]
        exact ⟨M5, rfl, fun _ => f2, fun w => absurd rfl w, (((a3.trans b3).trans c4).trans e3).trans f3⟩
      · rw [if_neg x]
        obtain ⟨M5, f1, f2, f3⟩ := T_opB (N := N) (q0 := q0) (q1 := q1) (q2 := q2) (q3 := q3) (q4 := q4) (q5 := q5) (c3 x)
        rw [T_putsB (c3 x), Option.bind_some, f1]
        exact ⟨M5, rfl, fun w => absurd w x, fun _ => f2, ((a3.trans b3).trans c4).trans f3⟩
    · have y' : nx (sr (g0 σ) 5) p = 40 := z.resolve_left y
      rw [if_neg y, if_neg y, if_pos y']
      obtain ⟨M3, c1, c2, c3, c4⟩ := hq2 M2 (p + 1) cs (by omega) (by omega) hl b2
      have G := h2 (p + 1) cs (by omega)
      rw [c1, Option.bind_some]
      generalize lvl (sr (g0 σ) 5) (opd (sr (g0 σ) 5) u d) 5 (p + 1, cs) = r at c2 c3 G ⊢
      obtain ⟨g1, g2, g3⟩ := G
      by_cases x : r.1 = true
      · rw [if_pos x]
        by_cases w : nx (sr (g0 σ) 5) r.2.1 = 41
        · rw [if_pos w]
          obtain ⟨M4, e1, e2, e3⟩ := (T_isH (c2 x) hI g1 41).1 w
          obtain ⟨M5, f1, f2, f3⟩ := e2.good
          obtain ⟨M6, i1, i2, i3⟩ := T_opn (N := N) (q0 := q0) (q1 := q1) (q2 := q2) (q3 := q3) (q4 := q4) (q5 := q5) f2
          rw [e1, bd2_s, if_neg (by decide)]
          unfold jX11_one_201
          rw [zr0, Option.bind_some, f1, Option.bind_some, i1]
          exact ⟨M6, rfl, fun _ => i2, fun w => absurd rfl w, ((((a3.trans b3).trans c4).trans e3).trans f3).trans i3⟩
        · rw [if_neg w, (T_isH (c2 x) hI g1 41).2 w, bd2_s, if_pos rfl]
          obtain ⟨M5, f1, f2, f3⟩ := (c2 x).bad
          obtain ⟨M6, i1, i2, i3⟩ := T_opB (N := N) (q0 := q0) (q1 := q1) (q2 := q2) (q3 := q3) (q4 := q4) (q5 := q5) f2
          unfold jX11_one_201
          rw [zr1, Option.bind_some, f1, Option.bind_some, i1]
          exact ⟨M6, rfl, fun w => (by cases w), fun _ => i2, (((a3.trans b3).trans c4).trans f3).trans i3⟩
      · rw [if_neg x, T_isHB (c3 x) (by decide), bd2_s, if_pos rfl]
        obtain ⟨M5, f1, f2, f3⟩ := (c3 x).bad
        obtain ⟨M6, i1, i2, i3⟩ := T_opB (N := N) (q0 := q0) (q1 := q1) (q2 := q2) (q3 := q3) (q4 := q4) (q5 := q5) f2
        unfold jX11_one_201
        rw [zr1, Option.bind_some, f1, Option.bind_some, i1]
        exact ⟨M6, rfl, fun w => absurd w x, fun _ => i2, (((a3.trans b3).trans c4).trans f3).trans i3⟩
  · rw [if_neg (fun w => z (Or.inl w)), if_neg (fun w => z (Or.inr w))]
    exact T_bas hI hN hu hp hl h (fun w => z (Or.inl w)) (fun w => z (Or.inr w))
end ON
def RdOK (σ : Sg) (u op : Nat) (q : Mm → Nat → Option Mm) (f : Ps → Rs) : Prop := ∀ M p cs, p ≤ (sr (g0 σ) 5).length → cs.length ≤ p → cs.length < 50 → RdT M σ u p cs op → Rt M σ u op (q M 137) (f (p, cs))
section GR
variable {N : Nat} {σ : Sg} {u : Nat}
theorem T_lvs (hI : Ig σ) (hN : 2000 ≤ N) {op n : Nat} {f : Ps → Rs} (hf : SubG (sr (g0 σ) 5) u f) (h0 : ∀ m, n ≤ m → RdOK σ u op (GX11_both N m).2.2.2.1 f) : ∀ m, n + 5 ≤ m → RdOK σ u op (GX11_both N m).2.2.1 (lvl (sr (g0 σ) 5) f 5) := by
  have s1 : ∀ m, n + 1 ≤ m → RdOK σ u op (GX11_both N m).2.2.2.2.1 (lvl (sr (g0 σ) 5) f 1) := by
    intro m hm
    obtain ⟨m, rfl⟩ : ∃ j, m = j + 1 := ⟨m - 1, by omega⟩
    intro M p cs a b c d
    exact T_lv4 hI hN hf (h0 m (by omega)) a b c d
  have s2 : ∀ m, n + 2 ≤ m → RdOK σ u op (GX11_both N m).2.2.2.2.2 (lvl (sr (g0 σ) 5) f 2) := by
    intro m hm
    obtain ⟨m, rfl⟩ : ∃ j, m = j + 1 := ⟨m - 1, by omega⟩
    intro M p cs a b c d
    exact T_lv3 hI hN (lvl_ok hf 1 (by decide)) (s1 m (by omega)) a b c d
  have s3 : ∀ m, n + 3 ≤ m → RdOK σ u op (GX11_both N m).2.1 (lvl (sr (g0 σ) 5) f 3) := by
    intro m hm
    obtain ⟨m, rfl⟩ : ∃ j, m = j + 1 := ⟨m - 1, by omega⟩
    intro M p cs a b c d
    exact T_lv2 hI hN (lvl_ok hf 2 (by decide)) (s2 m (by omega)) a b c d
  have s4 : ∀ m, n + 4 ≤ m → RdOK σ u op (GX11_both N m).1 (lvl (sr (g0 σ) 5) f 4) := by
    intro m hm
    obtain ⟨m, rfl⟩ : ∃ j, m = j + 1 := ⟨m - 1, by omega⟩
    intro M p cs a b c d
    exact T_lv1 hI hN (lvl_ok hf 3 (by decide)) (s3 m (by omega)) a b c d
  intro m hm
  obtain ⟨m, rfl⟩ : ∃ j, m = j + 1 := ⟨m - 1, by omega⟩
  intro M p cs a b c d
  exact T_lv0 hI hN (lvl_ok hf 4 (by decide)) (s4 m (by omega)) a b c d
theorem T_opd (hI : Ig σ) (hN : 2000 ≤ N) (hu : u ≤ 8) : ∀ (d op : Nat), d + op = 5 → ∀ m, 6 * d + 1 ≤ m → RdOK σ u op (GX11_both N m).2.2.2.1 (opd (sr (g0 σ) 5) u d) := by
  intro d
  induction d with
  | zero =>
    intro op ho m hm
    obtain ⟨m, rfl⟩ : ∃ j, m = j + 1 := ⟨m - 1, by omega⟩
    obtain rfl : op = 5 := by omega
    intro M p cs a b c d
    exact T_one0 hI hN hu a c d
  | succ d ih =>
    intro op ho m hm
    obtain ⟨m, rfl⟩ : ∃ j, m = j + 1 := ⟨m - 1, by omega⟩
    have i1 := ih (op + 1) (by omega)
    have i2 := T_lvs hI hN (opd_ok d) i1
    intro M p cs a b c e
    exact T_one1 hI hN hu (by omega) (i1 m (by omega)) (i2 m (by omega)) a b c e
theorem T_rd (hI : Ig σ) (hN : 2000 ≤ N) (hu : u ≤ 8) {M : Mm} (h : RdT M σ u 0 [] 0) : Rt M σ u 0 (fX11_either N M 137) (rdT (sr (g0 σ) 5) u) :=
  T_lvs hI hN (opd_ok 5) (T_opd hI hN hu 5 0 rfl) 100 (by decide) M 0 [] (Nat.zero_le _) (Nat.le_refl _) (by decide) h
end GR
