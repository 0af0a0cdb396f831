/-! texts: levels and operands (rows) -/
def Rc (M : Mm) (xs : List Int32) (u : Nat) (x : Option (Int32 × Mm)) (r : Rs) : Prop := ∃ M', x = some (if r.1 = true then 1 else 0, M') ∧ RdC M' xs u r.2.1 r.2.2 ∧ Of (fun k => 132 ≤ k ∧ k < 137) M M'
theorem sg_ok (M : Mm) : ∀ level, level < 5 → fX2_signsOf M (nI level) = some (6 + level)
  | 0, _ => rfl
  | 1, _ => rfl
  | 2, _ => rfl
  | 3, _ => rfl
  | 4, _ => rfl
theorem sg_len : ∀ level, level < 5 → 6 + level < 11 ∧ 0 < st_len.getD (6 + level) 0 := by decide
section LV
variable {N : Nat} {xs : List Int32} {u : Nat} {f : Ps → Rs} {q0 : Mm → Nat → Int32 → Int32 → Option (Int32 × Mm)} {q1 q2 : Mm → Nat → Int32 → Option (Int32 × Mm)} {level op : Nat}
theorem C_lpL (hN : 2000 ≤ N) (hx : ∀ x ∈ xs, wi x 0 255) (h50 : xs.length ≤ 50) (hf : SubG xs u f) (hl : level < 5) (hq : ∀ M p cs, p ≤ xs.length → cs.length ≤ p → cs.length < 50 → RdC M xs u p cs → Rc M xs u (q0 M 132 (nI (level + 1)) (nI op)) (f (p, cs))) : ∀ (k i g p : Nat) (M : Mm) (cs : List Int32), i + k = 50 → k < g → p ≤ xs.length → cs.length ≤ p → RdC M xs u p cs → Rc M xs u (LX2_readLevel_26 q0 q1 q2 N g M 132 (nI level) (nI op) (nI i)) (lp xs f level k (p, cs)) := by
  obtain ⟨s1, s2⟩ := sg_len level hl
  intro k
  induction k with
  | zero =>
    intro i g p M cs hk hg hp hc h
    obtain ⟨g, rfl⟩ : ∃ j, g = j + 1 := ⟨g - 1, by omega⟩
    have e : i = 50 := by omega
    subst e
    show Rc M xs u (BX2_readLevel_26 q0 q1 q2 N (LX2_readLevel_26 q0 q1 q2 N g) M 132 _ _ _) (true, p, cs)
    unfold BX2_readLevel_26
    rw [if_pos (by decide)]
    exact ⟨M, rfl, h, Of.rf⟩
  | succ k ih =>
    intro i g p M cs hk hg hp hc h
    obtain ⟨g, rfl⟩ : ∃ j, g = j + 1 := ⟨g - 1, by omega⟩
    obtain ⟨f0, f1, f2, f3, f4⟩ := h.f
    show Rc M xs u (BX2_readLevel_26 q0 q1 q2 N (LX2_readLevel_26 q0 q1 q2 N g) M 132 _ _ _) _
    unfold BX2_readLevel_26 lp
    rw [if_neg (show ¬ (50 : Int32) ≤ nI i from nI_ge (b := 50) (by omega) (by decide)), sg_ok M level hl, Option.bind_some, C_next h hN hx hp s1 s2]
    simp only [Option.bind_some, gd]
    by_cases z : nx xs p ∈ sgn level
    · rw [if_pos (show nx xs p ∈ st_by.getD (6 + level) [] from z), if_pos z]
      have hp1 := nx_in z (sgn_m1 level hl)
      obtain ⟨M1, a1, a2, a3⟩ := h.adv
      obtain ⟨M2, b1, b2, b3⟩ := hq M1 (p + 1) cs (by omega) (by omega) (by omega) a2
      have G := hf (p + 1) cs (by omega)
      simp only [f2, f3, R_at h.2.2, lg_nI (show p < 2 ^ 31 by omega), Option.bind_some, nI_1, a1]
      rw [← nx_at hp1, b1, bd2_s]
      generalize f (p + 1, cs) = r at b2 G ⊢
      obtain ⟨g1, g2, g3⟩ := G
      by_cases y : r.1 = true
      · rw [if_pos y, if_pos y, if_neg (by decide)]
        obtain ⟨g4, es, g5, g6, g7⟩ := g3 y
        have l1 : r.2.2.length < 50 := by rw [g5]; simp; omega
        obtain ⟨M3, c1, c2, c3⟩ := b2.add l1 (-nx xs p)
        rw [b2.f.2.1, Option.bind_some, c1, bd2_s]
        by_cases x : level = 2
        · rw [if_pos x, if_pos (show nI level = (2 : Int32) by rw [x]; rfl)]
          exact ⟨M3, rfl, c2, (a3.trans b3).trans c3⟩
        · rw [if_neg x, if_neg (show ¬ nI level = (2 : Int32) from fun w => x ((nI_eq (b := 2) (by omega) (by decide)).mp w))]
          obtain ⟨M4, d1, d2, d3⟩ := ih (i + 1) g r.2.1 M3 (r.2.2 ++ [-nx xs p]) (by omega) (by omega) g1 (by rw [g5]; simp; omega) c2
          exact ⟨M4, d1, d2, ((a3.trans b3).trans c3).trans d3⟩
      · rw [if_neg y, if_neg y, if_pos rfl]
        exact ⟨M2, by rw [if_neg y], b2, a3.trans b3⟩
    · rw [if_neg (show ¬ nx xs p ∈ st_by.getD (6 + level) [] from z), if_neg z]
      exact ⟨M, rfl, h, Of.rf⟩
theorem C_lv (hN : 2000 ≤ N) (hx : ∀ x ∈ xs, wi x 0 255) (h50 : xs.length ≤ 50) (hf : SubG xs u f) (hl : level < 5) (hq : ∀ M p cs, p ≤ xs.length → cs.length ≤ p → cs.length < 50 → RdC M xs u p cs → Rc M xs u (q0 M 132 (nI (level + 1)) (nI op)) (f (p, cs))) {M : Mm} {p : Nat} {cs : List Int32} (hp : p ≤ xs.length) (hc : cs.length ≤ p) (hc5 : cs.length < 50) (h : RdC M xs u p cs) : Rc M xs u (FX2_readLevel q0 q1 q2 N M 132 (nI level) (nI op)) (mkL xs f level (p, cs)) := by
  obtain ⟨M2, b1, b2, b3⟩ := hq M p cs hp hc hc5 h
  have G := hf p cs hp
  unfold FX2_readLevel mkL
  rw [h.f.1, Option.bind_some, if_pos (show nI level < (5 : Int32) from nI_lt (b := 5) hl (by decide)), nI_1, b1, bd2_s]
  generalize f (p, cs) = r at b2 G ⊢
  obtain ⟨g1, g2, g3⟩ := G
  by_cases y : r.1 = true
  · rw [if_pos y, if_pos y, if_neg (by decide)]
    obtain ⟨g4, es, g5, g6, g7⟩ := g3 y
    obtain ⟨M4, d1, d2, d3⟩ := C_lpL (N := N) (q1 := q1) (q2 := q2) hN hx h50 hf hl hq 50 0 N r.2.1 M2 r.2.2 (by omega) (by omega) g1 (by rw [g5]; simp; omega) b2
    exact ⟨M4, d1, d2, b3.trans d3⟩
  · rw [if_neg y, if_neg y, if_pos rfl]
    exact ⟨M2, by rw [if_neg y], b2, b3⟩
end LV
theorem zrB {b : Bool} : zr (if b = true then 1 else 0) = some (if b = true then 1 else 0) := by
  cases b <;> rfl
theorem C_lvN {N : Nat} {xs : List Int32} {u : Nat} {f : Ps → Rs} {op e : Nat} (hN : 2000 ≤ N) (hx : ∀ x ∈ xs, wi x 0 255) (h50 : xs.length ≤ 50) (hf : SubG xs u f) (hq : ∀ g M p cs, p ≤ xs.length → cs.length ≤ p → cs.length < 50 → RdC M xs u p cs → Rc M xs u ((GX2_readLevel N (g + e)).2.2 M 132 (nI op)) (f (p, cs))) : ∀ n, n ≤ 5 → ∀ g M p cs, p ≤ xs.length → cs.length ≤ p → cs.length < 50 → RdC M xs u p cs → Rc M xs u ((GX2_readLevel N (g + e + n + 1)).1 M 132 (nI (5 - n)) (nI op)) (lvl xs f n (p, cs)) := by
  intro n
  induction n with
  | zero =>
    intro _ g M p cs hp hc hc5 h
    obtain ⟨M2, b1, b2, b3⟩ := hq g M p cs hp hc hc5 h
    refine ⟨M2, ?_, b2, b3⟩
    show FX2_readLevel (GX2_readLevel N (g + e)).1 (GX2_readLevel N (g + e)).2.1 (GX2_readLevel N (g + e)).2.2 N M 132 (nI 5) (nI op) = _
    unfold FX2_readLevel
    rw [h.f.1, Option.bind_some, if_neg (by decide), b1, bd2_s, zrB]
    rfl
  | succ n ih =>
    intro hn g M p cs hp hc hc5 h
    have q := ih (by omega)
    show Rc M xs u (FX2_readLevel (GX2_readLevel N (g + e + n + 1)).1 (GX2_readLevel N (g + e + n + 1)).2.1 (GX2_readLevel N (g + e + n + 1)).2.2 N M 132 (nI (5 - (n + 1))) (nI op)) (mkL xs (lvl xs f n) (4 - n) (p, cs))
    rw [show 5 - (n + 1) = 4 - n by omega]
    refine C_lv hN hx h50 (lvl_ok hf n (by omega)) (by omega) (fun M' p' cs' a b c d => ?_) hp hc hc5 h
    have w := q g M' p' cs' a b c d
    rw [show 5 - n = 4 - n + 1 by omega] at w
    exact w
theorem C_bas {N : Nat} {xs : List Int32} {u : Nat} {q0 : Mm → Nat → Int32 → Int32 → Option (Int32 × Mm)} {q1 q2 : Mm → Nat → Int32 → Option (Int32 × Mm)} {op : Int32} (hN : 2000 ≤ N) (hx : ∀ x ∈ xs, wi x 0 255) (h50 : xs.length ≤ 50) {M : Mm} {p : Nat} {cs : List Int32} (hp : p ≤ xs.length) (hc5 : cs.length < 50) (h : RdC M xs u p cs) (h33 : ¬ nx xs p = 33) (h40 : ¬ nx xs p = 40) : Rc M xs u (FX2_readOperand q0 q1 q2 N M 132 op) (bas xs u (p, cs)) := by
  obtain ⟨f0, f1, f2, f3, f4⟩ := h.f
  have nu : nmI u < 11 ∧ 0 < st_len.getD (nmI u) 0 := by rcases nmI_in u with e | e <;> rw [e] <;> decide
  have kn : sK (nmI u) = some (nmI u) := if_pos nu.1
  unfold FX2_readOperand bas
  rw [f0, Option.bind_some, C_next h hN hx hp (s := 3) (by decide) (by decide), Option.bind_some, gd, if_neg (fun w => by
    rcases List.mem_cons.mp w with w | w
    · exact h33 w
    · exact h40 (List.mem_singleton.mp w)), f4, Option.bind_some, C_next h hN hx hp nu.1 nu.2, Option.bind_some, gd]
  by_cases z : nx xs p ∈ nms u
  · rw [if_pos (show nx xs p ∈ st_by.getD (nmI u) [] from z), if_pos z]
    have hp1 := nx_in z (nms_m1 u)
    have hw := getD_wi hx (by decide) p
    obtain ⟨k, hk, ek⟩ := wi_ix (n := 255) (by decide) rfl hw
    have ec : ((xs.getD p 0).toUInt32 % 65536).toInt32 = xs.getD p 0 := by
      rw [ek, pk_char, pk_tn (by omega), Nat.mod_eq_of_lt (by omega)]
    obtain ⟨M1, a1, a2, a3⟩ := h.add hc5 (-1 - nI ((nms u).idxOf (nx xs p)))
    obtain ⟨M2, b1, b2, b3⟩ := a2.adv
    refine ⟨M2, ?_, b2, a3.trans b3⟩
    simp only [f1, f2, f3, R_at h.2.2, lg_nI (show p < 2 ^ 31 by omega), kn, ec, Option.bind_some]
    rw [← nx_at hp1] at hw ⊢
    rw [J_ix hN nu.1 nu.2 hw, if_pos (show nx xs p ∈ st_by.getD (nmI u) [] from z), Option.bind_some]
    rw [show ((-1 : Int32) - nI (List.idxOf (nx xs p) (st_by.getD (nmI u) []))) = -1 - nI ((nms u).idxOf (nx xs p)) from rfl, a1, bd2_s, a2.f.2.2.2.1, Option.bind_some, nI_1, b1]
    rfl
  · rw [if_neg (show ¬ nx xs p ∈ st_by.getD (nmI u) [] from z), if_neg z]
    obtain ⟨M1, a1, a2, a3⟩ := C_num (N := N) hN hx hp hc5 h
    refine ⟨M1, ?_, a2, a3⟩
    rw [a1, bd2_s, zrB]
    rfl
theorem C_opd {N : Nat} {xs : List Int32} {u : Nat} (hN : 2000 ≤ N) (hx : ∀ x ∈ xs, wi x 0 255) (h50 : xs.length ≤ 50) : ∀ d, d ≤ 5 → ∀ g M p cs, p ≤ xs.length → cs.length ≤ p → cs.length < 50 → RdC M xs u p cs → Rc M xs u ((GX2_readLevel N (g + (8 * d + 1))).2.2 M 132 (nI (5 - d))) (opd xs u d (p, cs)) := by
  have o3 : ∀ c : Int32, c = 33 ∨ c = 40 → c ∈ st_by.getD 3 [] := by
    rintro c (rfl | rfl) <;> decide
  intro d
  induction d with
  | zero =>
    intro _ g M p cs hp hc hc5 h
    show Rc M xs u (FX2_readOperand (GX2_readLevel N g).1 (GX2_readLevel N g).2.1 (GX2_readLevel N g).2.2 N M 132 (nI 5)) _
    unfold opd
    by_cases z : nx xs p = 33 ∨ nx xs p = 40
    · rw [if_pos z]
      unfold FX2_readOperand
      rw [h.f.1, Option.bind_some, C_next h hN hx hp (s := 3) (by decide) (by decide), Option.bind_some, gd, if_pos (o3 _ z), if_pos (by decide)]
      exact ⟨M, rfl, h, Of.rf⟩
    · rw [if_neg z]
      exact C_bas hN hx h50 hp hc5 h (fun w => z (Or.inl w)) (fun w => z (Or.inr w))
  | succ d ih =>
    intro hd g M p cs hp hc hc5 h
    have I := ih (by omega)
    have e5 : 5 - (d + 1) + 1 = 5 - d := by omega
    show Rc M xs u (FX2_readOperand (GX2_readLevel N (g + (8 * d + 8))).1 (GX2_readLevel N (g + (8 * d + 8))).2.1 (GX2_readLevel N (g + (8 * d + 8))).2.2 N M 132 (nI (5 - (d + 1)))) _
    have OP : ∀ r : Rs, (nx xs p = 33 ∨ nx xs p = 40) → Rc M xs u (FX2_readOpened (GX2_readLevel N (g + (8 * d + 7))).1 (GX2_readLevel N (g + (8 * d + 7))).2.1 (GX2_readLevel N (g + (8 * d + 7))).2.2 N M 132 (nI (5 - d))) r → Rc M xs u (FX2_readOperand (GX2_readLevel N (g + (8 * d + 8))).1 (GX2_readLevel N (g + (8 * d + 8))).2.1 (GX2_readLevel N (g + (8 * d + 8))).2.2 N M 132 (nI (5 - (d + 1)))) r := by
      intro r z hr
      obtain ⟨M2, b1, b2, b3⟩ := hr
      refine ⟨M2, ?_, b2, b3⟩
      unfold FX2_readOperand
      rw [h.f.1, Option.bind_some, C_next h hN hx hp (s := 3) (by decide) (by decide), Option.bind_some, gd, if_pos (o3 _ z), if_neg (show ¬ (5 : Int32) ≤ nI (5 - (d + 1)) from nI_ge (b := 5) (by omega) (by decide)), nI_1, e5]
      rw [show (GX2_readLevel N (g + (8 * d + 8))).2.1 M 132 (nI (5 - d)) = _ from b1, bd2_s]
      by_cases y : r.1 = true
      · rw [if_pos y]; rfl
      · rw [if_neg y]; rfl
    unfold opd
    by_cases z : nx xs p = 33
    · rw [if_pos z]
      have hp1 := nx_eq z (by decide)
      obtain ⟨f0, f1, f2, f3, f4⟩ := h.f
      refine OP _ (Or.inl z) ?_
      obtain ⟨M1, a1, a2, a3⟩ := h.adv
      have W := I (g + 6) M1 (p + 1) cs (by omega) (by omega) hc5 a2
      rw [show g + 6 + (8 * d + 1) = g + (8 * d + 7) by omega] at W
      obtain ⟨M2, b1, b2, b3⟩ := W
      have G := opd_ok (xs := xs) (u := u) d (p + 1) cs (by omega)
      unfold FX2_readOpened
      simp only [f0, f2, f3, R_at h.2.2, lg_nI (show p < 2 ^ 31 by omega), Option.bind_some, nI_1, a1]
      rw [← nx_at hp1, z, if_pos rfl, b1, bd2_s]
      show Rc M xs u _ (if (opd xs u d (p + 1, cs)).1 = true then (true, (opd xs u d (p + 1, cs)).2.1, (opd xs u d (p + 1, cs)).2.2 ++ [-33]) else opd xs u d (p + 1, cs))
      generalize opd xs u d (p + 1, cs) = r at b2 G ⊢
      obtain ⟨g1, g2, g3⟩ := G
      by_cases y : r.1 = true
      · rw [if_pos y, if_pos y, if_neg (by decide)]
        obtain ⟨g4, es, g5, g6, g7⟩ := g3 y
        have l1 : r.2.2.length < 50 := by rw [g5]; simp; omega
        obtain ⟨M3, c1, c2, c3⟩ := b2.add l1 (-33)
        refine ⟨M3, ?_, c2, (a3.trans b3).trans c3⟩
        rw [b2.f.2.1, Option.bind_some, c1]
        rfl
      · rw [if_neg y, if_neg y, if_pos rfl]
        exact ⟨M2, by rw [if_neg y], b2, a3.trans b3⟩
    · rw [if_neg z]
      by_cases w : nx xs p = 40
      · rw [if_pos w]
        have hp1 := nx_eq w (by decide)
        obtain ⟨f0, f1, f2, f3, f4⟩ := h.f
        refine OP _ (Or.inr w) ?_
        obtain ⟨M1, a1, a2, a3⟩ := h.adv
        have W := C_lvN (N := N) (op := 5 - d) (e := 8 * d + 1) hN hx h50 (opd_ok (xs := xs) (u := u) d) I 5 (Nat.le_refl _) g M1 (p + 1) cs (by omega) (by omega) hc5 a2
        rw [show g + (8 * d + 1) + 5 + 1 = g + (8 * d + 7) by omega] at W
        obtain ⟨M2, b1, b2, b3⟩ := W
        have G := lvl_ok (opd_ok (xs := xs) (u := u) d) 5 (Nat.le_refl _) (p + 1) cs (by omega)
        unfold FX2_readOpened
        simp only [f0, f2, f3, R_at h.2.2, lg_nI (show p < 2 ^ 31 by omega), Option.bind_some, nI_1, a1]
        rw [← nx_at hp1, w, if_neg (by decide), show (GX2_readLevel N (g + (8 * d + 7))).1 M1 132 0 (nI (5 - d)) = _ from b1, bd2_s]
        show Rc M xs u _ (if (lvl xs (opd xs u d) 5 (p + 1, cs)).1 = true then (if nx xs (lvl xs (opd xs u d) 5 (p + 1, cs)).2.1 = 41 then (true, (lvl xs (opd xs u d) 5 (p + 1, cs)).2.1 + 1, (lvl xs (opd xs u d) 5 (p + 1, cs)).2.2) else (false, (lvl xs (opd xs u d) 5 (p + 1, cs)).2)) else lvl xs (opd xs u d) 5 (p + 1, cs))
        generalize lvl xs (opd xs u d) 5 (p + 1, cs) = r at b2 G ⊢
        obtain ⟨g1, g2, g3⟩ := G
        by_cases y : r.1 = true
        · rw [if_pos y, if_pos y, if_neg (by decide), C_next b2 hN hx g1 (s := 4) (by decide) (by decide), Option.bind_some, gd]
          by_cases v : nx xs r.2.1 = 41
          · rw [if_pos v, if_pos (show nx xs r.2.1 ∈ st_by.getD 4 [] by rw [v]; decide)]
            obtain ⟨M3, c1, c2, c3⟩ := b2.adv
            refine ⟨M3, ?_, c2, (a3.trans b3).trans c3⟩
            rw [b2.f.2.2.2.1, Option.bind_some, nI_1, c1]
            rfl
          · rw [if_neg v, if_neg (show ¬ nx xs r.2.1 ∈ st_by.getD 4 [] from fun q => v (List.mem_singleton.mp q))]
            exact ⟨M2, rfl, b2, a3.trans b3⟩
        · rw [if_neg y, if_neg y, if_pos rfl]
          exact ⟨M2, by rw [if_neg y], b2, a3.trans b3⟩
      · rw [if_neg w]
        exact C_bas hN hx h50 hp hc5 h z w
/-- the whole strip is read -/
def rdT (xs : List Int32) (u : Nat) : Rs := lvl xs (opd xs u 5) 5 (0, [])
theorem C_rdT {N : Nat} {M : Mm} {xs : List Int32} {u : Nat} (hN : 2000 ≤ N) (hx : ∀ x ∈ xs, wi x 0 255) (h50 : xs.length ≤ 50) (h : RdC M xs u 0 []) : Rc M xs u (fX2_readLevel N M 132 0 0) (rdT xs u) := by
  have W := C_lvN (N := N) (op := 0) (e := 41) hN hx h50 (opd_ok (xs := xs) (u := u) 5) (fun g M p cs a b c d => C_opd hN hx h50 5 (Nat.le_refl _) g M p cs a b c d) 5 (Nat.le_refl _) 53 M 0 [] (Nat.zero_le _) (Nat.le_refl _) (by decide) h
  exact W
