/-! text in the reference: levels -/
section LQ
variable {N : Nat} {σ : Sg} {u op : Nat} {f : Ps → Rs} {q0 q1 q2 q3 q4 q5 : Mm → Nat → Option Mm}
theorem T_summ (hI : Ig σ) (hf : SubG (sr (g0 σ) 5) u f) (hq : ∀ M p cs, p ≤ (sr (g0 σ) 5).length → cs.length ≤ p → cs.length < 50 → RdT M σ u p cs op → Rt M σ u op (q4 M 137) (f (p, cs))) : ∀ (k g p : Nat) (M : Mm) (cs : List Int32), (sr (g0 σ) 5).length - p < k → k < g → p ≤ (sr (g0 σ) 5).length → cs.length ≤ p → RdT M σ u p cs op → Rt M σ u op (LX11_sum_9 q0 q1 q2 q3 q4 q5 N g M 137 (nx (sr (g0 σ) 5) p)) (lp (sr (g0 σ) 5) f 3 k (p, cs)) := by
  have h50 : (sr (g0 σ) 5).length ≤ 50 := hI.1.L 5 (by decide)
  have B : ∀ K M (c : Int32), BX11_sum_9 q0 q1 q2 q3 q4 q5 N K M 137 c = if c ∈ sgn 3 then jX11_sum_21 q0 q1 q2 q3 q4 q5 N K M 137 c else some M := by
    intro K M c
    unfold BX11_sum_9
    by_cases z1 : c = 43
    · subst z1; rfl
    by_cases z2 : c = 45
    · subst z2; rfl
    rw [if_neg z1, if_neg z2, if_neg]
    intro w
    rcases List.mem_cons.mp w with w | w
    · exact z1 w
    · exact z2 (List.mem_singleton.mp w)
  intro k
  induction k with
  | zero => intro g p M cs hk; omega
  | succ k ih =>
    intro g p M cs hk hg hp hc h
    obtain ⟨g, rfl⟩ : ∃ j, g = j + 1 := ⟨g - 1, by omega⟩
    show Rt M σ u op (BX11_sum_9 q0 q1 q2 q3 q4 q5 N (LX11_sum_9 q0 q1 q2 q3 q4 q5 N g) M 137 _) _
    rw [B]
    unfold lp
    by_cases z : nx (sr (g0 σ) 5) p ∈ sgn 3
    · rw [if_pos z, if_pos z]
      obtain ⟨w1, w2⟩ := tw_sg 3 (by decide) _ z
      have hp1 := nx_in z (sgn_m1 3 (by decide))
      obtain ⟨M1, a1, a2, a3⟩ := h.adv
      obtain ⟨M2, b1, b2, b3, b4⟩ := hq M1 (p + 1) cs (by omega) (by omega) (by omega) a2
      have G := hf (p + 1) cs (by omega)
      unfold jX11_sum_21
      rw [h.i.2.1, Option.bind_some, nI_1, a1, Option.bind_some, b1, Option.bind_some]
      generalize f (p + 1, cs) = r at b2 b3 G ⊢
      obtain ⟨g1, g2, g3⟩ := G
      by_cases y : r.1 = true
      · rw [if_pos y, if_neg (by decide)]
        obtain ⟨g4, es, g5, g6, g7⟩ := g3 y
        have d2 := b2 y
        have l1 : r.2.2.length < 50 := by rw [g5]; simp; omega
        obtain ⟨M3, c1, c2, c3⟩ := T_puts d2 l1 (c := -nx (sr (g0 σ) 5) p) w1
        rw [c1, Option.bind_some, T_here c2 hI g1, Option.bind_some]
        obtain ⟨M4, e1, e2, e3, e4⟩ := ih g r.2.1 M3 (r.2.2 ++ [-nx (sr (g0 σ) 5) p]) (by omega) (by omega) g1 (by rw [g5]; simp; omega) c2
        exact ⟨M4, e1, e2, e3, ((a3.trans b4).trans c3).trans e4⟩
      · rw [if_neg y]
        have d2 := b3 y
        rw [T_putsB d2, Option.bind_some, T_hereB d2, Option.bind_some]
        obtain ⟨g', rfl⟩ : ∃ j, g = j + 1 := ⟨g - 1, by omega⟩
        show Rt M σ u op (BX11_sum_9 q0 q1 q2 q3 q4 q5 N (LX11_sum_9 q0 q1 q2 q3 q4 q5 N g') M2 137 _) _
        rw [B, if_neg (sgn_m1 3 (by decide))]
        exact ⟨M2, rfl, fun w => absurd w y, fun _ => d2, a3.trans b4⟩
    · rw [if_neg z, if_neg z]
      exact ⟨M, rfl, fun _ => h, fun w => absurd rfl w, Of.rf⟩
theorem T_bothL' (hI : Ig σ) (hf : SubG (sr (g0 σ) 5) u f) (hq : ∀ M p cs, p ≤ (sr (g0 σ) 5).length → cs.length ≤ p → cs.length < 50 → RdT M σ u p cs op → Rt M σ u op (q1 M 137) (f (p, cs))) : ∀ (k g p : Nat) (M : Mm) (cs : List Int32), (sr (g0 σ) 5).length - p < k → k < g → p ≤ (sr (g0 σ) 5).length → cs.length ≤ p → RdT M σ u p cs op → Rt M σ u op (LX11_both_4 q0 q1 q2 q3 q4 q5 N g M 137) (lp (sr (g0 σ) 5) f 1 k (p, cs)) := by
  have h50 : (sr (g0 σ) 5).length ≤ 50 := hI.1.L 5 (by decide)
  intro k
  induction k with
  | zero => intro g p M cs hk; omega
  | succ k ih =>
    intro g p M cs hk hg hp hc h
    obtain ⟨g, rfl⟩ : ∃ j, g = j + 1 := ⟨g - 1, by omega⟩
    show Rt M σ u op (BX11_both_4 q0 q1 q2 q3 q4 q5 N (LX11_both_4 q0 q1 q2 q3 q4 q5 N g) M 137) _
    unfold BX11_both_4 lp
    by_cases z : nx (sr (g0 σ) 5) p ∈ sgn 1
    · have z' : nx (sr (g0 σ) 5) p = 38 := List.mem_singleton.mp z
      rw [if_pos z]
      have hp1 := nx_in z (sgn_m1 1 (by decide))
      obtain ⟨M1, a1, a2, a3⟩ := (T_isH h hI hp 38).1 z'
      obtain ⟨M2, b1, b2, b3, b4⟩ := hq M1 (p + 1) cs (by omega) (by omega) (by omega) a2
      have G := hf (p + 1) cs (by omega)
      rw [a1, bd2_s, if_neg (by decide), b1, Option.bind_some]
      generalize f (p + 1, cs) = r at b2 b3 G ⊢
      obtain ⟨g1, g2, g3⟩ := G
      by_cases y : r.1 = true
      · rw [if_pos y, if_neg (by decide)]
        obtain ⟨g4, es, g5, g6, g7⟩ := g3 y
        have d2 := b2 y
        have l1 : r.2.2.length < 50 := by rw [g5]; simp; omega
        obtain ⟨M3, c1, c2, c3⟩ := T_puts d2 l1 (v := 20038) (c := -nx (sr (g0 σ) 5) p) (by rw [z']; decide)
        rw [c1, Option.bind_some]
        obtain ⟨M4, e1, e2, e3, e4⟩ := ih g r.2.1 M3 (r.2.2 ++ [-nx (sr (g0 σ) 5) p]) (by omega) (by omega) g1 (by rw [g5]; simp; omega) c2
        exact ⟨M4, e1, e2, e3, ((a3.trans b4).trans c3).trans e4⟩
      · rw [if_neg y]
        have d2 := b3 y
        rw [T_putsB d2, Option.bind_some]
        obtain ⟨g', rfl⟩ : ∃ j, g = j + 1 := ⟨g - 1, by omega⟩
        show Rt M σ u op (BX11_both_4 q0 q1 q2 q3 q4 q5 N (LX11_both_4 q0 q1 q2 q3 q4 q5 N g') M2 137) _
        unfold BX11_both_4
        rw [T_isHB d2 (by decide), bd2_s, if_pos rfl]
        exact ⟨M2, rfl, fun w => absurd w y, fun _ => d2, a3.trans b4⟩
    · rw [if_neg z, (T_isH h hI hp 38).2 (fun w => z (by rw [w]; decide)), bd2_s, if_pos rfl]
      exact ⟨M, rfl, fun _ => h, fun w => absurd rfl w, Of.rf⟩
theorem T_eithL (hI : Ig σ) (hf : SubG (sr (g0 σ) 5) u f) (hq : ∀ M p cs, p ≤ (sr (g0 σ) 5).length → cs.length ≤ p → cs.length < 50 → RdT M σ u p cs op → Rt M σ u op (q0 M 137) (f (p, cs))) : ∀ (k g p : Nat) (M : Mm) (cs : List Int32), (sr (g0 σ) 5).length - p < k → k < g → p ≤ (sr (g0 σ) 5).length → cs.length ≤ p → RdT M σ u p cs op → Rt M σ u op (LX11_either_4 q0 q1 q2 q3 q4 q5 N g M 137) (lp (sr (g0 σ) 5) f 0 k (p, cs)) := by
  have h50 : (sr (g0 σ) 5).length ≤ 50 := hI.1.L 5 (by decide)
  intro k
  induction k with
  | zero => intro g p M cs hk; omega
  | succ k ih =>
    intro g p M cs hk hg hp hc h
    obtain ⟨g, rfl⟩ : ∃ j, g = j + 1 := ⟨g - 1, by omega⟩
    show Rt M σ u op (BX11_either_4 q0 q1 q2 q3 q4 q5 N (LX11_either_4 q0 q1 q2 q3 q4 q5 N g) M 137) _
    unfold BX11_either_4 lp
    by_cases z : nx (sr (g0 σ) 5) p ∈ sgn 0
    · have z' : nx (sr (g0 σ) 5) p = 124 := List.mem_singleton.mp z
      rw [if_pos z]
      have hp1 := nx_in z (sgn_m1 0 (by decide))
      obtain ⟨M1, a1, a2, a3⟩ := (T_isH h hI hp 124).1 z'
      obtain ⟨M2, b1, b2, b3, b4⟩ := hq M1 (p + 1) cs (by omega) (by omega) (by omega) a2
      have G := hf (p + 1) cs (by omega)
      rw [a1, bd2_s, if_neg (by decide), b1, Option.bind_some]
      generalize f (p + 1, cs) = r at b2 b3 G ⊢
      obtain ⟨g1, g2, g3⟩ := G
      by_cases y : r.1 = true
      · rw [if_pos y, if_neg (by decide)]
        obtain ⟨g4, es, g5, g6, g7⟩ := g3 y
        have d2 := b2 y
        have l1 : r.2.2.length < 50 := by rw [g5]; simp; omega
        obtain ⟨M3, c1, c2, c3⟩ := T_puts d2 l1 (v := 20124) (c := -nx (sr (g0 σ) 5) p) (by rw [z']; decide)
        rw [c1, Option.bind_some]
        obtain ⟨M4, e1, e2, e3, e4⟩ := ih g r.2.1 M3 (r.2.2 ++ [-nx (sr (g0 σ) 5) p]) (by omega) (by omega) g1 (by rw [g5]; simp; omega) c2
        exact ⟨M4, e1, e2, e3, ((a3.trans b4).trans c3).trans e4⟩
      · rw [if_neg y]
        have d2 := b3 y
        rw [T_putsB d2, Option.bind_some]
        obtain ⟨g', rfl⟩ : ∃ j, g = j + 1 := ⟨g - 1, by omega⟩
        show Rt M σ u op (BX11_either_4 q0 q1 q2 q3 q4 q5 N (LX11_either_4 q0 q1 q2 q3 q4 q5 N g') M2 137) _
        unfold BX11_either_4
        rw [T_isHB d2 (by decide), bd2_s, if_pos rfl]
        exact ⟨M2, rfl, fun w => absurd w y, fun _ => d2, a3.trans b4⟩
    · rw [if_neg z, (T_isH h hI hp 124).2 (fun w => z (by rw [w]; decide)), bd2_s, if_pos rfl]
      exact ⟨M, rfl, fun _ => h, fun w => absurd rfl w, Of.rf⟩
theorem T_mk {M : Mm} {p level : Nat} {cs : List Int32} {x : Option Mm} {L : Mm → Option Mm} (hI : Ig σ) (hf : SubG (sr (g0 σ) 5) u f) (hp : p ≤ (sr (g0 σ) 5).length) (hc : cs.length ≤ p) (hx : Rt M σ u op x (f (p, cs))) (hL : ∀ M p cs, (sr (g0 σ) 5).length - p < 50 → p ≤ (sr (g0 σ) 5).length → cs.length ≤ p → RdT M σ u p cs op → Rt M σ u op (L M) (lp (sr (g0 σ) 5) f level 50 (p, cs))) (hB : ∀ M p, RbT M σ u p op → L M = some M) : Rt M σ u op (x.bind L) (mkL (sr (g0 σ) 5) f level (p, cs)) := by
  have h50 : (sr (g0 σ) 5).length ≤ 50 := hI.1.L 5 (by decide)
  have G := hf p cs hp
  obtain ⟨M2, b1, b2, b3, b4⟩ := hx
  unfold mkL
  rw [b1, Option.bind_some]
  generalize f (p, cs) = r at b2 b3 G ⊢
  obtain ⟨g1, g2, g3⟩ := G
  by_cases y : r.1 = true
  · rw [if_pos y]
    obtain ⟨g4, es, g5, g6, g7⟩ := g3 y
    obtain ⟨M4, e1, e2, e3, e4⟩ := hL M2 r.2.1 r.2.2 (by omega) g1 (by rw [g5]; simp; omega) (b2 y)
    exact ⟨M4, e1, e2, e3, b4.trans e4⟩
  · rw [if_neg y, hB M2 r.2.1 (b3 y)]
    exact ⟨M2, rfl, fun w => absurd w y, fun _ => b3 y, b4⟩
end LQ
section LS
variable {N : Nat} {σ : Sg} {u op : Nat} {f : Ps → Rs} {q0 q1 q2 q3 q4 q5 : Mm → Nat → Option Mm}
theorem T_lv4 (hI : Ig σ) (hN : 2000 ≤ N) (hf : SubG (sr (g0 σ) 5) u f) (hq : ∀ M p cs, p ≤ (sr (g0 σ) 5).length → cs.length ≤ p → cs.length < 50 → RdT M σ u p cs op → Rt M σ u op (q3 M 137) (f (p, cs))) {M : Mm} {p : Nat} {cs : List Int32} (hp : p ≤ (sr (g0 σ) 5).length) (hc : cs.length ≤ p) (hc5 : cs.length < 50) (h : RdT M σ u p cs op) : Rt M σ u op (FX11_product q0 q1 q2 q3 q4 q5 N M 137) (mkL (sr (g0 σ) 5) f 4 (p, cs)) := by
  unfold FX11_product
  rw [h.c, Option.bind_some]
  refine T_mk hI hf hp hc (hq M p cs hp hc hc5 h) (fun M' p' cs' a b c d => ?_) (fun M' p' d => ?_)
  · rw [T_here d hI b, Option.bind_some]
    exact T_prod hI hf hq 50 N p' M' cs' a (by omega) b c d
  · rw [T_hereB d, Option.bind_some]
    obtain ⟨n, hn⟩ : ∃ n, N = n + 1 := ⟨N - 1, by omega⟩
    rw [show LX11_product_9 q0 q1 q2 q3 q4 q5 N N M' 137 (-1) = LX11_product_9 q0 q1 q2 q3 q4 q5 N (n + 1) M' 137 (-1) by rw [← hn]]
    rfl
theorem T_lv3 (hI : Ig σ) (hN : 2000 ≤ N) (hf : SubG (sr (g0 σ) 5) u f) (hq : ∀ M p cs, p ≤ (sr (g0 σ) 5).length → cs.length ≤ p → cs.length < 50 → RdT M σ u p cs op → Rt M σ u op (q4 M 137) (f (p, cs))) {M : Mm} {p : Nat} {cs : List Int32} (hp : p ≤ (sr (g0 σ) 5).length) (hc : cs.length ≤ p) (hc5 : cs.length < 50) (h : RdT M σ u p cs op) : Rt M σ u op (FX11_sum q0 q1 q2 q3 q4 q5 N M 137) (mkL (sr (g0 σ) 5) f 3 (p, cs)) := by
  unfold FX11_sum
  rw [h.c, Option.bind_some]
  refine T_mk hI hf hp hc (hq M p cs hp hc hc5 h) (fun M' p' cs' a b c d => ?_) (fun M' p' d => ?_)
  · rw [T_here d hI b, Option.bind_some]
    exact T_summ hI hf hq 50 N p' M' cs' a (by omega) b c d
  · rw [T_hereB d, Option.bind_some]
    obtain ⟨n, hn⟩ : ∃ n, N = n + 1 := ⟨N - 1, by omega⟩
    rw [show LX11_sum_9 q0 q1 q2 q3 q4 q5 N N M' 137 (-1) = LX11_sum_9 q0 q1 q2 q3 q4 q5 N (n + 1) M' 137 (-1) by rw [← hn]]
    rfl
theorem T_lv1 (hI : Ig σ) (hN : 2000 ≤ N) (hf : SubG (sr (g0 σ) 5) u f) (hq : ∀ M p cs, p ≤ (sr (g0 σ) 5).length → cs.length ≤ p → cs.length < 50 → RdT M σ u p cs op → Rt M σ u op (q1 M 137) (f (p, cs))) {M : Mm} {p : Nat} {cs : List Int32} (hp : p ≤ (sr (g0 σ) 5).length) (hc : cs.length ≤ p) (hc5 : cs.length < 50) (h : RdT M σ u p cs op) : Rt M σ u op (FX11_both q0 q1 q2 q3 q4 q5 N M 137) (mkL (sr (g0 σ) 5) f 1 (p, cs)) := by
  unfold FX11_both
  rw [h.c, Option.bind_some]
  refine T_mk hI hf hp hc (hq M p cs hp hc hc5 h) (fun M' p' cs' a b c d => T_bothL' hI hf hq 50 N p' M' cs' a (by omega) b c d) (fun M' p' d => ?_)
  obtain ⟨n, hn⟩ : ∃ n, N = n + 1 := ⟨N - 1, by omega⟩
  have e : ∀ g, g = n + 1 → LX11_both_4 q0 q1 q2 q3 q4 q5 N g M' 137 = BX11_both_4 q0 q1 q2 q3 q4 q5 N (LX11_both_4 q0 q1 q2 q3 q4 q5 N n) M' 137 := by
    intro g hg; subst hg; rfl
  rw [e N hn]
  unfold BX11_both_4
  rw [T_isHB d (by decide), bd2_s, if_pos rfl]
theorem T_lv0 (hI : Ig σ) (hN : 2000 ≤ N) (hf : SubG (sr (g0 σ) 5) u f) (hq : ∀ M p cs, p ≤ (sr (g0 σ) 5).length → cs.length ≤ p → cs.length < 50 → RdT M σ u p cs op → Rt M σ u op (q0 M 137) (f (p, cs))) {M : Mm} {p : Nat} {cs : List Int32} (hp : p ≤ (sr (g0 σ) 5).length) (hc : cs.length ≤ p) (hc5 : cs.length < 50) (h : RdT M σ u p cs op) : Rt M σ u op (FX11_either q0 q1 q2 q3 q4 q5 N M 137) (mkL (sr (g0 σ) 5) f 0 (p, cs)) := by
  unfold FX11_either
  rw [h.c, Option.bind_some]
  refine T_mk hI hf hp hc (hq M p cs hp hc hc5 h) (fun M' p' cs' a b c d => T_eithL hI hf hq 50 N p' M' cs' a (by omega) b c d) (fun M' p' d => ?_)
  obtain ⟨n, hn⟩ : ∃ n, N = n + 1 := ⟨N - 1, by omega⟩
  have e : ∀ g, g = n + 1 → LX11_either_4 q0 q1 q2 q3 q4 q5 N g M' 137 = BX11_either_4 q0 q1 q2 q3 q4 q5 N (LX11_either_4 q0 q1 q2 q3 q4 q5 N n) M' 137 := by
    intro g hg; subst hg; rfl
  rw [e N hn]
  unfold BX11_either_4
  rw [T_isHB d (by decide), bd2_s, if_pos rfl]
theorem T_lv2 (hI : Ig σ) (hN : 2000 ≤ N) (hf : SubG (sr (g0 σ) 5) u f) (hq : ∀ M p cs, p ≤ (sr (g0 σ) 5).length → cs.length ≤ p → cs.length < 50 → RdT M σ u p cs op → Rt M σ u op (q5 M 137) (f (p, cs))) {M : Mm} {p : Nat} {cs : List Int32} (hp : p ≤ (sr (g0 σ) 5).length) (hc : cs.length ≤ p) (hc5 : cs.length < 50) (h : RdT M σ u p cs op) : Rt M σ u op (FX11_compared q0 q1 q2 q3 q4 q5 N M 137) (mkL (sr (g0 σ) 5) f 2 (p, cs)) := by
  have h50 : (sr (g0 σ) 5).length ≤ 50 := hI.1.L 5 (by decide)
  have B : ∀ (M : Mm) (c : Int32), (if c = 60 then jX11_compared_28 q0 q1 q2 q3 q4 q5 N M 137 c else if c = 61 then jX11_compared_28 q0 q1 q2 q3 q4 q5 N M 137 c else if c = 62 then jX11_compared_28 q0 q1 q2 q3 q4 q5 N M 137 c else some M) = if c ∈ sgn 2 then jX11_compared_28 q0 q1 q2 q3 q4 q5 N M 137 c else some M := by
    intro M c
    by_cases z1 : c = 60
    · subst z1; rfl
    by_cases z2 : c = 61
    · subst z2; rfl
    by_cases z3 : c = 62
    · subst z3; rfl
    rw [if_neg z1, if_neg z2, if_neg z3, if_neg]
    intro w
    rcases List.mem_cons.mp w with w | w
    · exact z1 w
    rcases List.mem_cons.mp w with w | w
    · exact z2 w
    · exact z3 (List.mem_singleton.mp w)
  unfold FX11_compared
  rw [h.c, Option.bind_some]
  refine T_mk hI hf hp hc (hq M p cs hp hc hc5 h) (fun M p cs a hp hc h => ?_) (fun M' p' d => ?_)
  · rw [T_here h hI hp, Option.bind_some, B]
    unfold lp
    by_cases z : nx (sr (g0 σ) 5) p ∈ sgn 2
    · rw [if_pos z, if_pos z]
      obtain ⟨w1, w2⟩ := tw_sg 2 (by decide) _ z
      have hp1 := nx_in z (sgn_m1 2 (by decide))
      obtain ⟨M1, a1, a2, a3⟩ := h.adv
      obtain ⟨M2, b1, b2, b3, b4⟩ := hq M1 (p + 1) cs (by omega) (by omega) (by omega) a2
      have G := hf (p + 1) cs (by omega)
      unfold jX11_compared_28
      rw [h.i.2.1, Option.bind_some, nI_1, a1, Option.bind_some, b1, Option.bind_some]
      generalize f (p + 1, cs) = r at b2 b3 G ⊢
      obtain ⟨g1, g2, g3⟩ := G
      by_cases y : r.1 = true
      · rw [if_pos y, if_pos rfl]
        obtain ⟨g4, es, g5, g6, g7⟩ := g3 y
        have l1 : r.2.2.length < 50 := by rw [g5]; simp; omega
        obtain ⟨M3, c1, c2, c3⟩ := T_puts (b2 y) l1 (c := -nx (sr (g0 σ) 5) p) w1
        rw [c1, Option.bind_some]
        exact ⟨M3, rfl, fun _ => c2, fun w => absurd rfl w, (a3.trans b4).trans c3⟩
      · rw [if_neg y, T_putsB (b3 y), Option.bind_some]
        exact ⟨M2, rfl, fun w => absurd w y, fun _ => b3 y, a3.trans b4⟩
    · rw [if_neg z, if_neg z]
      exact ⟨M, rfl, fun _ => h, fun w => absurd rfl w, Of.rf⟩
  · rw [T_hereB d, Option.bind_some, B, if_neg (sgn_m1 2 (by decide))]
end LS
