/-! texts, purely: how a strip is read -/
abbrev Ps : Type := Nat × List Int32
abbrev Rs : Type := Bool × Nat × List Int32
def nx (xs : List Int32) (p : Nat) : Int32 := if p < xs.length then xs.getD p 0 else -1
def sgn (level : Nat) : List Int32 := st_by.getD (6 + level) []
def nmI (u : Nat) : Nat := if u < 3 then 1 else 2
def nms (u : Nat) : List Int32 := st_by.getD (nmI u) []
def nbR (xs : List Int32) : Nat → Nat → Int32 → Nat × Int32
  | 0, p, v => (p, v)
  | k + 1, p, v => if wi (nx xs p) 48 57 then nbR xs k (p + 1) (10 * v + nx xs p - 48) else (p, v)
def num (xs : List Int32) (s : Ps) : Rs := if (nbR xs 4 s.1 0).1 = s.1 then (false, s.1, s.2) else (true, (nbR xs 4 s.1 0).1, s.2 ++ [(nbR xs 4 s.1 0).2])
def bas (xs : List Int32) (u : Nat) (s : Ps) : Rs := if nx xs s.1 ∈ nms u then (true, s.1 + 1, s.2 ++ [-1 - nI ((nms u).idxOf (nx xs s.1))]) else num xs s
def lp (xs : List Int32) (f : Ps → Rs) (level : Nat) : Nat → Ps → Rs
  | 0, s => (true, s)
  | k + 1, s => if nx xs s.1 ∈ sgn level then (if (f (s.1 + 1, s.2)).1 = true then (if level = 2 then (true, (f (s.1 + 1, s.2)).2.1, (f (s.1 + 1, s.2)).2.2 ++ [-nx xs s.1]) else lp xs f level k ((f (s.1 + 1, s.2)).2.1, (f (s.1 + 1, s.2)).2.2 ++ [-nx xs s.1])) else f (s.1 + 1, s.2)) else (true, s)
def mkL (xs : List Int32) (f : Ps → Rs) (level : Nat) (s : Ps) : Rs := if (f s).1 = true then lp xs f level 50 (f s).2 else f s
/-- level 5 - n of the reading, f reading an operand -/
def lvl (xs : List Int32) (f : Ps → Rs) : Nat → Ps → Rs
  | 0 => f
  | n + 1 => mkL xs (lvl xs f n) (4 - n)
def opd (xs : List Int32) (u : Nat) : Nat → Ps → Rs
  | 0, s => if nx xs s.1 = 33 ∨ nx xs s.1 = 40 then (false, s) else bas xs u s
  | d + 1, s => if nx xs s.1 = 33 then (if (opd xs u d (s.1 + 1, s.2)).1 = true then (true, (opd xs u d (s.1 + 1, s.2)).2.1, (opd xs u d (s.1 + 1, s.2)).2.2 ++ [-33]) else opd xs u d (s.1 + 1, s.2)) else if nx xs s.1 = 40 then (if (lvl xs (opd xs u d) 5 (s.1 + 1, s.2)).1 = true then (if nx xs (lvl xs (opd xs u d) 5 (s.1 + 1, s.2)).2.1 = 41 then (true, (lvl xs (opd xs u d) 5 (s.1 + 1, s.2)).2.1 + 1, (lvl xs (opd xs u d) 5 (s.1 + 1, s.2)).2.2) else (false, (lvl xs (opd xs u d) 5 (s.1 + 1, s.2)).2)) else lvl xs (opd xs u d) 5 (s.1 + 1, s.2)) else bas xs u s
theorem dp_app : ∀ (a b : List Int32) (k : Nat), dp (a ++ b) k = (dp a k).bind (dp b)
  | [], b, k => rfl
  | c :: a, b, k => by
    show (if -4 ≤ c then dp (a ++ b) (k + 1) else if c = -33 then (if 1 ≤ k then dp (a ++ b) k else none) else (if 2 ≤ k then dp (a ++ b) (k - 1) else none)) = (if -4 ≤ c then dp a (k + 1) else if c = -33 then (if 1 ≤ k then dp a k else none) else (if 2 ≤ k then dp a (k - 1) else none)).bind (dp b)
    rw [dp_app a b, dp_app a b, dp_app a b]
    by_cases h1 : -4 ≤ c
    · rw [if_pos h1, if_pos h1]
    · rw [if_neg h1, if_neg h1]
      by_cases h2 : c = -33
      · rw [if_pos h2, if_pos h2]
        by_cases h3 : 1 ≤ k
        · rw [if_pos h3, if_pos h3]
        · rw [if_neg h3, if_neg h3]; rfl
      · rw [if_neg h2, if_neg h2]
        by_cases h3 : 2 ≤ k
        · rw [if_pos h3, if_pos h3]
        · rw [if_neg h3, if_neg h3]; rfl
/-- a piece of a text: one number more on the stack -/
def Pc (u : Nat) (es : List Int32) : Prop := (∀ k, dp es k = some (k + 1)) ∧ ∀ c ∈ es, tok u c
theorem Pc.one {u : Nat} {c : Int32} (h1 : (-4 : Int32) ≤ c) (h2 : tok u c) : Pc u [c] := by
  refine ⟨fun k => ?_, fun x hx => by rw [List.mem_singleton.mp hx]; exact h2⟩
  show (if -4 ≤ c then dp [] (k + 1) else _) = _
  rw [if_pos h1]; rfl
theorem Pc.neg {u : Nat} {es : List Int32} (h : Pc u es) : Pc u (es ++ [-33]) := by
  refine ⟨fun k => ?_, fun x hx => ?_⟩
  · rw [dp_app, h.1 k]
    show dp [-33] (k + 1) = _
    show (if (-4 : Int32) ≤ -33 then _ else if (-33 : Int32) = -33 then (if 1 ≤ k + 1 then dp [] (k + 1) else none) else _) = _
    rw [if_neg (by decide), if_pos rfl, if_pos (by omega)]; rfl
  · rcases List.mem_append.mp hx with q | q
    · exact h.2 x q
    · rw [List.mem_singleton.mp q]
      exact Or.inr (Or.inr (Or.inr (by decide)))
def bin : List Int32 := [-124, -38, -60, -61, -62, -43, -45, -42, -47, -37]
theorem bin_ok : ∀ c ∈ bin, ¬ (-4 : Int32) ≤ c ∧ c ≠ -33 ∧ c ∈ ([-33, -124, -38, -60, -61, -62, -43, -45, -42, -47, -37] : List Int32) := by decide
theorem Pc.bin {u : Nat} {es fs : List Int32} {c : Int32} (h : Pc u es) (g : Pc u fs) (hc : c ∈ bin) : Pc u (es ++ (fs ++ [c])) := by
  obtain ⟨c1, c2, c3⟩ := bin_ok c hc
  refine ⟨fun k => ?_, fun x hx => ?_⟩
  · rw [dp_app, h.1 k]
    show dp (fs ++ [c]) (k + 1) = _
    rw [dp_app, g.1 (k + 1)]
    show (if -4 ≤ c then _ else if c = -33 then _ else (if 2 ≤ k + 1 + 1 then dp [] (k + 1 + 1 - 1) else none)) = _
    rw [if_neg c1, if_neg c2, if_pos (by omega)]; rfl
  · rcases List.mem_append.mp hx with q | q
    · exact h.2 x q
    · rcases List.mem_append.mp q with q | q
      · exact g.2 x q
      · rw [List.mem_singleton.mp q]
        exact Or.inr (Or.inr (Or.inr c3))
theorem sgn_bin : ∀ level, level < 5 → ∀ c ∈ sgn level, -c ∈ bin := by decide
theorem nx_in {xs : List Int32} {p : Nat} {l : List Int32} (h : nx xs p ∈ l) (hl : (-1 : Int32) ∉ l) : p < xs.length := by
  unfold nx at h
  by_cases z : p < xs.length
  · exact z
  · rw [if_neg z] at h; exact absurd h hl
theorem nx_eq {xs : List Int32} {p : Nat} {c : Int32} (h : nx xs p = c) (hl : c ≠ -1) : p < xs.length := nx_in (l := [c]) (by rw [h]; exact List.mem_singleton.mpr rfl) (fun q => hl (List.mem_singleton.mp q).symm)
theorem sgn_m1 : ∀ level, level < 5 → (-1 : Int32) ∉ sgn level := by decide
theorem nms_m1 (u : Nat) : (-1 : Int32) ∉ nms u := by
  unfold nms nmI
  by_cases h : u < 3
  · rw [if_pos h]; decide
  · rw [if_neg h]; decide
def Gd (xs : List Int32) (u p : Nat) (cs : List Int32) (r : Rs) : Prop := r.2.1 ≤ xs.length ∧ p ≤ r.2.1 ∧ (r.1 = true → p < r.2.1 ∧ ∃ es, r.2.2 = cs ++ es ∧ es.length + p ≤ r.2.1 ∧ Pc u es)
def SubG (xs : List Int32) (u : Nat) (f : Ps → Rs) : Prop := ∀ p cs, p ≤ xs.length → Gd xs u p cs (f (p, cs))
theorem lp_ok {xs : List Int32} {u : Nat} {f : Ps → Rs} (hf : SubG xs u f) {level : Nat} (hl : level < 5) {p0 : Nat} {cs0 : List Int32} : ∀ (k p : Nat) (es : List Int32), p ≤ xs.length → p0 < p → es.length + p0 ≤ p → Pc u es → Gd xs u p0 cs0 (lp xs f level k (p, cs0 ++ es)) := by
  intro k
  induction k with
  | zero =>
    intro p es hp h0 he hP
    exact ⟨hp, Nat.le_of_lt h0, fun _ => ⟨h0, es, rfl, he, hP⟩⟩
  | succ k ih =>
    intro p es hp h0 he hP
    unfold lp
    by_cases z : nx xs p ∈ sgn level
    · rw [if_pos z]
      have hp1 := nx_in z (sgn_m1 level hl)
      have G := hf (p + 1) (cs0 ++ es) (by omega)
      show Gd xs u p0 cs0 (if (f (p + 1, cs0 ++ es)).1 = true then (if level = 2 then (true, (f (p + 1, cs0 ++ es)).2.1, (f (p + 1, cs0 ++ es)).2.2 ++ [-nx xs p]) else lp xs f level k ((f (p + 1, cs0 ++ es)).2.1, (f (p + 1, cs0 ++ es)).2.2 ++ [-nx xs p])) else f (p + 1, cs0 ++ es))
      generalize f (p + 1, cs0 ++ es) = r at G ⊢
      obtain ⟨g1, g2, g3⟩ := G
      by_cases y : r.1 = true
      · rw [if_pos y]
        obtain ⟨g4, fs, g5, g6, g7⟩ := g3 y
        have P2 := hP.bin g7 (sgn_bin level hl _ z)
        have e : r.2.2 ++ [-nx xs p] = cs0 ++ (es ++ (fs ++ [-nx xs p])) := by rw [g5]; simp
        rw [e]
        have l2 : (es ++ (fs ++ [-nx xs p])).length + p0 ≤ r.2.1 := by simp; omega
        by_cases x : level = 2
        · rw [if_pos x]
          exact ⟨g1, by show p0 ≤ r.2.1; omega, fun _ => ⟨by show p0 < r.2.1; omega, _, rfl, l2, P2⟩⟩
        · rw [if_neg x]
          exact ih r.2.1 _ g1 (by omega) l2 P2
      · rw [if_neg y]
        exact ⟨g1, by omega, fun q => absurd q y⟩
    · rw [if_neg z]
      exact ⟨hp, Nat.le_of_lt h0, fun _ => ⟨h0, es, rfl, he, hP⟩⟩
theorem mkL_ok {xs : List Int32} {u : Nat} {f : Ps → Rs} (hf : SubG xs u f) {level : Nat} (hl : level < 5) : SubG xs u (mkL xs f level) := by
  intro p cs hp
  have G := hf p cs hp
  unfold mkL
  by_cases y : (f (p, cs)).1 = true
  · rw [if_pos y]
    obtain ⟨g1, g2, g3⟩ := G
    obtain ⟨g4, es, g5, g6, g7⟩ := g3 y
    have := lp_ok hf hl (p0 := p) (cs0 := cs) 50 (f (p, cs)).2.1 es g1 g4 g6 g7
    rw [← g5] at this
    exact this
  · rw [if_neg y]; exact G
theorem lvl_ok {xs : List Int32} {u : Nat} {f : Ps → Rs} (hf : SubG xs u f) : ∀ n, n ≤ 5 → SubG xs u (lvl xs f n)
  | 0, _ => hf
  | n + 1, h => mkL_ok (lvl_ok hf n (by omega)) (by omega)
theorem nbR_ok {xs : List Int32} : ∀ (k p : Nat) (a : Nat), p ≤ xs.length → a < 10 ^ (4 - k) → k ≤ 4 → ∃ b : Nat, (nbR xs k p (nI a)).2 = nI b ∧ b < 10 ^ 4 ∧ p ≤ (nbR xs k p (nI a)).1 ∧ (nbR xs k p (nI a)).1 ≤ xs.length := by
  intro k
  induction k with
  | zero =>
    intro p a hp ha hk
    exact ⟨a, rfl, ha, Nat.le_refl _, hp⟩
  | succ k ih =>
    intro p a hp ha hk
    unfold nbR
    by_cases z : wi (nx xs p) 48 57
    · rw [if_pos z]
      have z' := wi_i.mp z
      have e48 : (48 : Int32).toInt = 48 := by decide
      have e57 : (57 : Int32).toInt = 57 := by decide
      rw [e48, e57] at z'
      have hp1 : p < xs.length := by
        unfold nx at z'
        by_cases y : p < xs.length
        · exact y
        · rw [if_neg y, show (-1 : Int32).toInt = -1 from by decide] at z'; omega
      obtain ⟨c, hc⟩ : ∃ c : Nat, (nx xs p).toInt = 48 + c := ⟨((nx xs p).toInt - 48).toNat, by omega⟩
      have ec : nx xs p = nI (48 + c) := by rw [i_eq, hc, nI_toInt (by omega)]; omega
      have ea : (10 : Int32) * nI a + nx xs p - 48 = nI (10 * a + c) := by
        rw [ec, show (10 : Int32) * nI a = nI (10 * a) from pk_mul 10 a, nI_add, show (48 : Int32) = nI 48 from rfl, pk_sub (by omega)]
        congr 1; omega
      have pw : 10 ^ (4 - k) = 10 ^ (4 - (k + 1)) * 10 := by rw [← Nat.pow_succ]; congr 1; omega
      have b4 : 10 ^ (4 - k) ≤ 10 ^ 4 := Nat.pow_le_pow_right (by omega) (by omega)
      rw [ea]
      obtain ⟨b, q1, q2, q3, q4⟩ := ih (p + 1) (10 * a + c) (by omega) (by omega) (by omega)
      exact ⟨b, q1, q2, by omega, q4⟩
    · rw [if_neg z]
      have b4 : 10 ^ (4 - (k + 1)) ≤ 10 ^ 4 := Nat.pow_le_pow_right (by omega) (by omega)
      exact ⟨a, rfl, by show a < 10 ^ 4; omega, Nat.le_refl _, hp⟩
theorem num_ok {xs : List Int32} {u : Nat} : SubG xs u (num xs) := by
  intro p cs hp
  obtain ⟨b, q1, q2, q3, q4⟩ := nbR_ok (xs := xs) 4 p 0 hp (by decide) (Nat.le_refl _)
  rw [show nI 0 = 0 from rfl] at q1 q3 q4
  unfold num
  show Gd xs u p cs (if (nbR xs 4 p 0).1 = p then (false, p, cs) else (true, (nbR xs 4 p 0).1, cs ++ [(nbR xs 4 p 0).2]))
  by_cases z : (nbR xs 4 p 0).1 = p
  · rw [if_pos z]
    exact ⟨hp, Nat.le_refl _, fun q => by cases q⟩
  · rw [if_neg z]
    refine ⟨q4, q3, fun _ => ⟨by show p < (nbR xs 4 p 0).1; omega, _, rfl, by show 1 + p ≤ (nbR xs 4 p 0).1; omega, ?_⟩⟩
    have w : wi (nbR xs 4 p 0).2 0 9999 := by
      rw [q1, wi_i, nI_toInt (by omega), show (0 : Int32).toInt = 0 from by decide, show (9999 : Int32).toInt = 9999 from by decide]; omega
    exact Pc.one (tw_num w).2.2.2 (Or.inl w)
theorem nm_tok : ∀ c, c ∈ st_by.getD 1 [] → ((-4 : Int32) ≤ -1 - nI ((st_by.getD 1 []).idxOf c) ∧ ((-1 - nI ((st_by.getD 1 []).idxOf c) = -1 ∨ -1 - nI ((st_by.getD 1 []).idxOf c) = -2) ∨ -1 - nI ((st_by.getD 1 []).idxOf c) = -3 ∨ -1 - nI ((st_by.getD 1 []).idxOf c) = -4)) := by decide
theorem nm_tok2 : ∀ c, c ∈ st_by.getD 2 [] → ((-4 : Int32) ≤ -1 - nI ((st_by.getD 2 []).idxOf c) ∧ (-1 - nI ((st_by.getD 2 []).idxOf c) = -1 ∨ -1 - nI ((st_by.getD 2 []).idxOf c) = -2)) := by decide
theorem bas_ok {xs : List Int32} {u : Nat} : SubG xs u (bas xs u) := by
  intro p cs hp
  unfold bas
  by_cases z : nx xs p ∈ nms u
  · rw [if_pos z]
    have hp1 := nx_in z (nms_m1 u)
    refine ⟨by show p + 1 ≤ xs.length; omega, by show p ≤ p + 1; omega, fun _ => ⟨by show p < p + 1; omega, _, rfl, by show 1 + p ≤ p + 1; omega, ?_⟩⟩
    unfold nms nmI at z ⊢
    by_cases h : u < 3
    · rw [if_pos h] at z ⊢
      obtain ⟨a1, a2⟩ := nm_tok _ z
      refine Pc.one a1 ?_
      rcases a2 with q | q
      · exact Or.inr (Or.inl q)
      · exact Or.inr (Or.inr (Or.inl ⟨h, q⟩))
    · rw [if_neg h] at z ⊢
      obtain ⟨a1, a2⟩ := nm_tok2 _ z
      exact Pc.one a1 (Or.inr (Or.inl a2))
  · rw [if_neg z]; exact num_ok p cs hp
theorem opd_ok {xs : List Int32} {u : Nat} : ∀ d, SubG xs u (opd xs u d)
  | 0 => by
    intro p cs hp
    unfold opd
    by_cases z : nx xs p = 33 ∨ nx xs p = 40
    · rw [if_pos z]
      exact ⟨hp, Nat.le_refl _, fun q => by cases q⟩
    · rw [if_neg z]; exact bas_ok p cs hp
  | d + 1 => by
    intro p cs hp
    have h1 := opd_ok (xs := xs) (u := u) d
    have h2 := lvl_ok h1 5 (Nat.le_refl _)
    unfold opd
    by_cases z : nx xs p = 33
    · rw [if_pos z]
      have hp1 := nx_eq z (by decide)
      have G := h1 (p + 1) cs (by omega)
      show Gd xs u p cs (if (opd xs u d (p + 1, cs)).1 = true then (true, (opd xs u d (p + 1, cs)).2.1, (opd xs u d (p + 1, cs)).2.2 ++ [-33]) else opd xs u d (p + 1, cs))
      generalize opd xs u d (p + 1, cs) = r at G ⊢
      obtain ⟨g1, g2, g3⟩ := G
      by_cases y : r.1 = true
      · rw [if_pos y]
        obtain ⟨g4, es, g5, g6, g7⟩ := g3 y
        refine ⟨g1, by show p ≤ r.2.1; omega, fun _ => ⟨by show p < r.2.1; omega, es ++ [-33], by rw [g5, List.append_assoc], by show (es ++ [-33]).length + p ≤ r.2.1; simp; omega, g7.neg⟩⟩
      · rw [if_neg y]
        exact ⟨g1, by omega, fun q => absurd q y⟩
    · rw [if_neg z]
      by_cases w : nx xs p = 40
      · rw [if_pos w]
        have hp1 := nx_eq w (by decide)
        have G := h2 (p + 1) cs (by omega)
        show Gd xs u p cs (if (lvl xs (opd xs u d) 5 (p + 1, cs)).1 = true then (if nx xs (lvl xs (opd xs u d) 5 (p + 1, cs)).2.1 = 41 then (true, (lvl xs (opd xs u d) 5 (p + 1, cs)).2.1 + 1, (lvl xs (opd xs u d) 5 (p + 1, cs)).2.2) else (false, (lvl xs (opd xs u d) 5 (p + 1, cs)).2)) else lvl xs (opd xs u d) 5 (p + 1, cs))
        generalize lvl xs (opd xs u d) 5 (p + 1, cs) = r at G ⊢
        obtain ⟨g1, g2, g3⟩ := G
        by_cases y : r.1 = true
        · rw [if_pos y]
          obtain ⟨g4, es, g5, g6, g7⟩ := g3 y
          by_cases v : nx xs r.2.1 = 41
          · rw [if_pos v]
            have hp2 := nx_eq v (by decide)
            exact ⟨by show r.2.1 + 1 ≤ xs.length; omega, by show p ≤ r.2.1 + 1; omega, fun _ => ⟨by show p < r.2.1 + 1; omega, es, g5, by show es.length + p ≤ r.2.1 + 1; omega, g7⟩⟩
          · rw [if_neg v]
            exact ⟨g1, by show p ≤ r.2.1; omega, fun q => by cases q⟩
        · rw [if_neg y]
          exact ⟨g1, by omega, fun q => absurd q y⟩
      · rw [if_neg w]; exact bas_ok p cs hp
