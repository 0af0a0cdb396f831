/-! laws -/
def clp (v : Int32) : Int32 := if 0 ≤ v then (if v ≤ 9 then v else 9) else 0
def lawV (S : St) (law : Nat) (n y : Int32) : Int32 := match sx S (3 + law) with
  | none => 1
  | some code => clp (ev n y 0 0 code)
theorem clp_n (v : Int32) : ∃ k : Nat, k ≤ 9 ∧ clp v = nI k := by
  unfold clp
  by_cases h : 0 ≤ v
  · rw [if_pos h]
    by_cases g : v ≤ 9
    · rw [if_pos g]
      exact nI_of2 (M := 9) (n := 9) (by decide) (Int32.not_lt.mpr h) g
    · rw [if_neg g]; exact ⟨9, Nat.le_refl _, rfl⟩
  · rw [if_neg h]; exact ⟨0, by omega, rfl⟩
theorem lawV_n (S : St) (law : Nat) (n y : Int32) : ∃ k : Nat, k ≤ 9 ∧ lawV S law n y = nI k := by
  unfold lawV
  cases sx S (3 + law) with
  | none => exact ⟨1, by omega, rfl⟩
  | some code => exact clp_n _
theorem clp_c (v : Int32) : mx 0 (if v < 9 then v else 9) = clp v := by
  have e0 : (0 : Int32).toInt = 0 := by decide
  have e9 : (9 : Int32).toInt = 9 := by decide
  unfold clp mx
  by_cases h : v < 9
  · rw [if_pos h]
    have h' := i_lt.mp h
    by_cases g : 0 < v
    · have g' := i_lt.mp g
      rw [if_pos g, if_pos (by rw [i_le]; omega), if_pos (by rw [i_le]; omega)]
    · have g' : ¬ (0 : Int32).toInt < v.toInt := fun q => g (i_lt.mpr q)
      rw [if_neg g]
      by_cases z : 0 ≤ v
      · have z' := i_le.mp z
        rw [if_pos z, if_pos (by rw [i_le]; omega), i_eq]; omega
      · rw [if_neg z]
  · have h' : ¬ v.toInt < (9 : Int32).toInt := fun q => h (i_lt.mpr q)
    rw [if_neg h, if_pos (by decide), if_pos (by rw [i_le]; omega)]
    by_cases z : v ≤ 9
    · have z' := i_le.mp z
      rw [if_pos z, i_eq]; omega
    · rw [if_neg z]
theorem ev1_cd (a b c d c' d' v : Int32) (s : List Int32) (h3 : v ≠ -3) (h4 : v ≠ -4) : ev1 a b c d v s = ev1 a b c' d' v s := by
  unfold ev1
  rw [if_neg h4, if_neg h4, if_neg h3, if_neg h3]
theorem evS_cd (a b c d c' d' : Int32) : ∀ (code s : List Int32), (∀ v ∈ code, v ≠ -3 ∧ v ≠ -4) → evS a b c d code s = evS a b c' d' code s
  | [], s, _ => rfl
  | v :: code, s, h => by
    show evS a b c d code (ev1 a b c d v s) = evS a b c' d' code (ev1 a b c' d' v s)
    have hv := h v (List.mem_cons_self ..)
    rw [ev1_cd a b c d c' d' v s hv.1 hv.2]
    exact evS_cd a b c d c' d' code _ (fun w hw => h w (List.mem_cons_of_mem _ hw))
theorem ev_cd {u : Nat} {code : List Int32} (hu : 3 ≤ u) (h : okT u code) (a b c d c' d' : Int32) : ev a b c d code = ev a b c' d' code := by
  unfold ev
  rw [evS_cd a b c d c' d' code [] (fun v hv => ?_)]
  rcases h.2.2 v hv with q | q | q | q
  · have := q.1
    exact ⟨fun e => by rw [e] at this; exact this (by decide), fun e => by rw [e] at this; exact this (by decide)⟩
  · rcases q with rfl | rfl <;> decide
  · omega
  · exact ⟨fun e => by rw [e] at q; exact absurd q (by decide), fun e => by rw [e] at q; exact absurd q (by decide)⟩
theorem C_law1 {N : Nat} {M : Mm} {σ : Sg} (h : RelC M σ) (hN : 2000 ≤ N) {law : Nat} (hl : law < 6) (n y : Int32) : ∃ M', fX6_lawGives N M 1 (nI law) n y = some (lawV (g0 σ) law n y, M') ∧ RelC M' σ ∧ FrC M M' := by
  obtain ⟨o, c1, c2⟩ := C_textOf h (u := 3 + law) (by omega)
  have e : (3 : Int32) + nI law = nI (3 + law) := nI_add 3 law
  unfold fX6_lawGives lawV
  simp only [h.2.1.c, e, c1, Option.bind_some]
  cases hs : sx (g0 σ) (3 + law) with
  | none =>
    rw [hs] at c2
    rw [show o = none from c2]
    exact ⟨M, rfl, h, FrC.rf⟩
  | some code =>
    rw [hs] at c2
    obtain ⟨q, rfl, hq⟩ := c2
    obtain ⟨M1, ys, v1, v2, v3⟩ := C_value (N := N) hq hN n y 0 0
    obtain ⟨w1, w2, w3⟩ := h.val hq v2 v3
    refine ⟨M1, ?_, w1, w2⟩
    show (bd2 (fX8_value N M q n y 0 0) fun v7 M8 => (fJ9_min_7cf53 M8 9 v7).bind fun v12 => (fJ9_max_7cf53 M8 0 v12).bind fun v14 => some (v14, M8)) = some (clp (ev n y 0 0 code), M1)
    rw [v1, bd2_s, C_min]
    simp only [Option.bind_some]
    rw [C_max, clp_c]
    rfl
theorem T_law1 {N : Nat} {M : Mm} {F : Nat → Int32} {A : Nat → Nat → Int32} {σ : Sg} (h : TwAt M F A) (r : TwR F A σ) (hI : Ig σ) (hN : 2000 ≤ N) {law : Nat} (hl : law < 6) (n y : Int32) : ∃ M' A', fX11_lawOf N M 137 (nI law) n y = some (lawV (g0 σ) law n y, M') ∧ TwAt M' F A' ∧ TwR F A' σ ∧ FrT M M' := by
  have e : (3 : Int32) + nI law = nI (3 + law) := nI_add 3 law
  have ef : aI M 0 138 ((482 : Int32) + (52 : Int32) * nI (3 + law)) = some (A 0 (482 + 52 * (3 + law))) := by
    rw [show (52 : Int32) * nI (3 + law) = nI (52 * (3 + law)) from pk_mul 52 _, show (482 : Int32) + nI (52 * (3 + law)) = nI (482 + 52 * (3 + law)) from nI_add 482 _]
    exact T_m h (by omega)
  have tx := r.1.2.2.2 (3 + law) (by omega)
  unfold fX11_lawOf lawV
  simp only [T_c h, T_q0 h, e, ef, Option.bind_some]
  cases hs : sx (g0 σ) (3 + law) with
  | none =>
    rw [hs] at tx
    rw [show A 0 (482 + 52 * (3 + law)) = 0 from tx, if_pos rfl]
    exact ⟨M, A, rfl, h, r, Of.rf⟩
  | some code =>
    rw [hs] at tx
    rw [show A 0 (482 + 52 * (3 + law)) = 1 from tx.1, if_neg (by decide)]
    have r15 : gQ M 11 137 15 = some 147 := T_ref h rfl
    obtain ⟨M1, a1, a2, a3⟩ := T_put h 9 (by decide) (j := 0) (show 0 < 4 by omega) n
    have r15' : gQ M1 11 137 15 = some 147 := T_ref a2 rfl
    obtain ⟨M2, b1, b2, b3⟩ := T_put a2 9 (by decide) (j := 1) (show 1 < 4 by omega) y
    have ok := hI.1.2.2.2.2.2.1 (3 + law) code (by omega) hs
    obtain ⟨M3, A3, s1, s2, s3, s4⟩ := T_says (N := N) b2 (u := 3 + law) (by omega) (code := code) tx ok hN
    have s1' : fX11_says N M2 137 (nI (3 + law)) = some (ev n y 0 0 code, M3) := by
      rw [s1, ev_cd (by omega) ok _ _ _ _ 0 0]
      rfl
    have e1 : sI M 0 147 0 n = some M1 := a1
    have e2 : sI M1 0 147 1 y = some M2 := b1
    simp only [r15, e1, r15', e2, s1', bd2_s, Option.bind_some]
    have R : TwR F A3 σ := r.s (by rw [s3 0 (by decide)]; rfl) (by rw [s3 1 (by decide)]; rfl) (by rw [s3 2 (by decide)]; rfl) (by rw [s3 5 (by decide)]; rfl) (by rw [s3 6 (by decide)]; rfl) (by rw [s3 7 (by decide)]; rfl) (by rw [s3 14 (by decide)]; rfl)
    refine ⟨M3, A3, ?_, s2, R, (a3.trans b3).trans s4⟩
    unfold clp
    by_cases z : 0 ≤ ev n y 0 0 code
    · rw [if_pos z, if_pos z]
      by_cases x : ev n y 0 0 code ≤ 9
      · rw [if_pos x, if_pos x]
      · rw [if_neg x, if_neg x]
    · rw [if_neg z, if_neg z]
def sp_law (σ : Sg) (law n y : Int32) : An := if wi law 0 5 then (lawV (g0 σ) law.toNatClampNeg n y, σ) else er σ 1
theorem I_law {σ : Sg} (h : Ig σ) (law n y : Int32) : Ig (sp_law σ law n y).2 := by
  unfold sp_law
  by_cases g : wi law 0 5
  · rw [if_pos g]; exact h
  · rw [if_neg g]; exact h.er 1
theorem C_law {N : Nat} {M : Mm} {σ : Sg} (h : RelC M σ) (hN : 2000 ≤ N) (law n y : Int32) : DoC M (fX10_law N M 0 law n y) (sp_law σ law n y) := by
  have J := DoC.er h (a := 1) 1 rfl (by decide)
  unfold fX10_law sp_law
  simp only [h.c, C_isLaw, h.q0, Option.bind_some, gd]
  by_cases g : wi law 0 5
  · rw [if_pos g, if_pos g]
    obtain ⟨x, hx, rfl⟩ := wi_ix (n := 5) (by decide) rfl g
    rw [nI_clamp (by omega)]
    obtain ⟨M1, a1, a2, a3⟩ := C_law1 (N := N) h hN (law := x) (by omega) n y
    rw [a1, bd2_s]
    exact ⟨M1, rfl, a2, a3⟩
  · rw [if_neg g, if_neg g]; exact J
theorem T_law {N : Nat} {M : Mm} {σ : Sg} (h : RelT M σ) (hI : Ig σ) (hN : 2000 ≤ N) (law n y : Int32) : DoT M (fX11_law N M 137 law n y) (sp_law σ law n y) := by
  obtain ⟨F, A, k1, k2⟩ := id h
  have J := DoT.er h hI.2.2.1 (a := 1) 1 rfl (by decide)
  unfold fX11_law sp_law
  simp only [T_c k1, T_isLaw, Option.bind_some, gd]
  by_cases g : wi law 0 5
  · rw [if_pos g, if_pos g]
    obtain ⟨x, hx, rfl⟩ := wi_ix (n := 5) (by decide) rfl g
    rw [nI_clamp (by omega)]
    obtain ⟨M1, A1, a1, a2, a3, a4⟩ := T_law1 (N := N) k1 k2 hI hN (law := x) (by omega) n y
    rw [a1, bd2_s]
    exact ⟨M1, rfl, ⟨F, A1, a2, a3⟩, a4⟩
  · rw [if_neg g, if_neg g]; exact J
/-! find -/
def fdY (g : Nat → Prop) [DecidablePred g] : Nat → Nat → Option Nat
  | 0, _ => none
  | k + 1, y => if g y then fdY g k (y + 1) else some y
def fnN (S : St) (a b : Nat) : Nat → Nat → Option Nat
  | 0, _ => none
  | k + 1, n => match fdY (fun y => lawV S a (nI n) (nI y) = lawV S b (nI n) (nI y)) 8 0 with
    | some y => some (10 * n + y)
    | none => fnN S a b k (n + 1)
def fdA (σ : Sg) (o : Option Nat) : An := match o with
  | some x => (nI x, σ)
  | none => er σ 2
def sp_find (σ : Sg) (a b : Int32) : An := if wi a 0 5 ∧ wi b 0 5 then fdA σ (fnN (g0 σ) a.toNatClampNeg b.toNatClampNeg 100 0) else er σ 1
theorem I_find {σ : Sg} (h : Ig σ) (a b : Int32) : Ig (sp_find σ a b).2 := by
  unfold sp_find
  by_cases g : wi a 0 5 ∧ wi b 0 5
  · rw [if_pos g]
    cases fnN (g0 σ) a.toNatClampNeg b.toNatClampNeg 100 0 with
    | none => exact h.er 2
    | some x => exact h
  · rw [if_neg g]; exact h.er 1
theorem C_findY {N : Nat} {σ : Sg} {a b n : Nat} (hN : 2000 ≤ N) (ha : a < 6) (hb : b < 6) (hn : n < 100) {K : Mm → Nat → Int32 → Int32 → Int32 → Option (Int32 × Mm)} {o : Option Nat} (hK : ∀ M, RelC M σ → DoC M (K M 0 (nI a) (nI b) (nI (n + 1))) (fdA σ o)) : ∀ (k y f : Nat) (M : Mm), y + k = 8 → k < f → RelC M σ → DoC M (LX10_find_31 N K f M 0 (nI a) (nI b) (nI n) (nI y)) (fdA σ (match fdY (fun y => lawV (g0 σ) a (nI n) (nI y) = lawV (g0 σ) b (nI n) (nI y)) k y with
    | some y => some (10 * n + y)
    | none => o)) := by
  intro k
  induction k with
  | zero =>
    intro y f M hk hf h
    obtain ⟨f, rfl⟩ : ∃ g, f = g + 1 := ⟨f - 1, by omega⟩
    have e : y = 8 := by omega
    subst e
    show DoC M (BX10_find_31 N K (LX10_find_31 N K f) M 0 _ _ _ _) _
    unfold BX10_find_31
    rw [if_pos (by decide), nI_1]
    exact hK M h
  | succ k ih =>
    intro y f M hk hf h
    obtain ⟨f, rfl⟩ : ∃ g, f = g + 1 := ⟨f - 1, by omega⟩
    obtain ⟨M1, a1, a2, a3⟩ := C_law1 (N := N) h hN ha (nI n) (nI y)
    obtain ⟨M2, b1, b2, b3⟩ := C_law1 (N := N) a2 hN hb (nI n) (nI y)
    show DoC M (BX10_find_31 N K (LX10_find_31 N K f) M 0 _ _ _ _) _
    unfold BX10_find_31
    rw [if_neg (show ¬ (8 : Int32) ≤ nI y from nI_ge (b := 8) (by omega) (by decide))]
    simp only [h.q0, Option.bind_some]
    rw [a1, bd2_s]
    simp only [a2.q0, Option.bind_some]
    rw [b1, bd2_s, nI_1]
    refine DoC.tr (a3.trans b3) ?_
    have q := ih (y + 1) f M2 (by omega) (by omega) b2
    unfold fdY
    by_cases z : lawV (g0 σ) a (nI n) (nI y) = lawV (g0 σ) b (nI n) (nI y)
    · rw [if_pos z, if_pos z]; exact q
    · rw [if_neg z, if_neg z]
      rw [show (10 : Int32) * nI n + nI y = nI (10 * n + y) from by rw [show (10 : Int32) * nI n = nI (10 * n) from pk_mul 10 n, nI_add]]
      exact DoC.same b2
theorem C_findN {N : Nat} {σ : Sg} {a b : Nat} (hN : 2000 ≤ N) (ha : a < 6) (hb : b < 6) : ∀ (k n f : Nat) (M : Mm), n + k = 100 → k < f → RelC M σ → DoC M (LX10_find_22 N f M 0 (nI a) (nI b) (nI n)) (fdA σ (fnN (g0 σ) a b k n)) := by
  intro k
  induction k with
  | zero =>
    intro n f M hk hf h
    obtain ⟨f, rfl⟩ : ∃ g, f = g + 1 := ⟨f - 1, by omega⟩
    have e : n = 100 := by omega
    subst e
    show DoC M (BX10_find_22 N (LX10_find_22 N f) M 0 _ _ _) _
    unfold BX10_find_22
    rw [if_pos (by decide)]
    exact DoC.er h 2 rfl (by decide)
  | succ k ih =>
    intro n f M hk hf h
    obtain ⟨f, rfl⟩ : ∃ g, f = g + 1 := ⟨f - 1, by omega⟩
    show DoC M (BX10_find_22 N (LX10_find_22 N f) M 0 _ _ _) _
    unfold BX10_find_22
    rw [if_neg (show ¬ (99 : Int32) < nI n from nI_nlt (a := 99) (by omega) (by decide))]
    exact C_findY (N := N) hN ha hb (by omega) (K := LX10_find_22 N f) (o := fnN (g0 σ) a b k (n + 1)) (fun M' h' => ih (n + 1) f M' (by omega) (by omega) h') 8 0 N M (by omega) (by omega) h
theorem C_find {N : Nat} {M : Mm} {σ : Sg} (h : RelC M σ) (hN : 2000 ≤ N) (a b : Int32) : DoC M (fX10_find N M 0 a b) (sp_find σ a b) := by
  have J := DoC.er h (a := 1) 1 rfl (by decide)
  unfold fX10_find sp_find jX10_find_14
  simp only [h.c, C_isLaw, Option.bind_some, gd]
  by_cases g : wi a 0 5 ∧ wi b 0 5
  · rw [if_pos g, if_pos g.1, if_pos g.2]
    obtain ⟨x, hx, rfl⟩ := wi_ix (n := 5) (by decide) rfl g.1
    obtain ⟨y, hy, rfl⟩ := wi_ix (n := 5) (by decide) rfl g.2
    rw [nI_clamp (show x < 2 ^ 31 by omega), nI_clamp (show y < 2 ^ 31 by omega)]
    exact C_findN (N := N) hN (by omega) (by omega) 100 0 N M (by omega) (by omega) h
  · rw [if_neg g]
    by_cases g1 : wi a 0 5
    · rw [if_pos g1, if_neg (fun q => g ⟨g1, q⟩)]; exact J
    · rw [if_neg g1]; exact J
theorem T_findY {N : Nat} {F : Nat → Int32} {σ : Sg} {a b n : Nat} (hI : Ig σ) (hN : 2000 ≤ N) (ha : a < 6) (hb : b < 6) (hn : n < 100) {K : Mm → Nat → Int32 → Int32 → Int32 → Option (Int32 × Mm)} {o : Option Nat} (hK : ∀ M A, TwAt M F A → TwR F A σ → DoT M (K M 137 (nI a) (nI b) (nI (n + 1))) (fdA σ o)) : ∀ (k y f : Nat) (M : Mm) (A : Nat → Nat → Int32), y + k = 8 → k < f → TwAt M F A → TwR F A σ → DoT M (LX11_find_31 N K f M 137 (nI a) (nI b) (nI n) (nI y)) (fdA σ (match fdY (fun y => lawV (g0 σ) a (nI n) (nI y) = lawV (g0 σ) b (nI n) (nI y)) k y with
    | some y => some (10 * n + y)
    | none => o)) := by
  intro k
  induction k with
  | zero =>
    intro y f M A hk hf h r
    obtain ⟨f, rfl⟩ : ∃ g, f = g + 1 := ⟨f - 1, by omega⟩
    have e : y = 8 := by omega
    subst e
    show DoT M (BX11_find_31 N K (LX11_find_31 N K f) M 137 _ _ _ _) _
    unfold BX11_find_31
    rw [if_pos (by decide), nI_1]
    exact hK M A h r
  | succ k ih =>
    intro y f M A hk hf h r
    obtain ⟨f, rfl⟩ : ∃ g, f = g + 1 := ⟨f - 1, by omega⟩
    obtain ⟨M1, A1, a1, a2, a3, a4⟩ := T_law1 (N := N) h r hI hN ha (nI n) (nI y)
    obtain ⟨M2, A2, b1, b2, b3, b4⟩ := T_law1 (N := N) a2 a3 hI hN hb (nI n) (nI y)
    show DoT M (BX11_find_31 N K (LX11_find_31 N K f) M 137 _ _ _ _) _
    unfold BX11_find_31
    rw [if_neg (show ¬ (8 : Int32) ≤ nI y from nI_ge (b := 8) (by omega) (by decide)), a1, bd2_s, b1, bd2_s, nI_1]
    refine DoT.tr (a4.trans b4) ?_
    have q := ih (y + 1) f M2 A2 (by omega) (by omega) b2 b3
    unfold fdY
    by_cases z : lawV (g0 σ) a (nI n) (nI y) = lawV (g0 σ) b (nI n) (nI y)
    · rw [if_pos z, if_pos z]; exact q
    · rw [if_neg z, if_neg z]
      rw [show (10 : Int32) * nI n + nI y = nI (10 * n + y) from by rw [show (10 : Int32) * nI n = nI (10 * n) from pk_mul 10 n, nI_add]]
      exact DoT.same ⟨F, A2, b2, b3⟩
theorem T_findN {N : Nat} {F : Nat → Int32} {σ : Sg} {a b : Nat} (hI : Ig σ) (hN : 2000 ≤ N) (ha : a < 6) (hb : b < 6) : ∀ (k n f : Nat) (M : Mm) (A : Nat → Nat → Int32), n + k = 100 → k < f → TwAt M F A → TwR F A σ → DoT M (LX11_find_22 N f M 137 (nI a) (nI b) (nI n)) (fdA σ (fnN (g0 σ) a b k n)) := by
  intro k
  induction k with
  | zero =>
    intro n f M A hk hf h r
    obtain ⟨f, rfl⟩ : ∃ g, f = g + 1 := ⟨f - 1, by omega⟩
    have e : n = 100 := by omega
    subst e
    show DoT M (BX11_find_22 N (LX11_find_22 N f) M 137 _ _ _) _
    unfold BX11_find_22
    rw [if_pos (by decide)]
    exact DoT.er ⟨F, A, h, r⟩ hI.2.2.1 2 rfl (by decide)
  | succ k ih =>
    intro n f M A hk hf h r
    obtain ⟨f, rfl⟩ : ∃ g, f = g + 1 := ⟨f - 1, by omega⟩
    show DoT M (BX11_find_22 N (LX11_find_22 N f) M 137 _ _ _) _
    unfold BX11_find_22
    rw [if_neg (show ¬ (100 : Int32) ≤ nI n from nI_ge (b := 100) (by omega) (by decide))]
    exact T_findY (N := N) hI hN ha hb (by omega) (K := LX11_find_22 N f) (o := fnN (g0 σ) a b k (n + 1)) (fun M' A' h' r' => ih (n + 1) f M' A' (by omega) (by omega) h' r') 8 0 N M A (by omega) (by omega) h r
theorem T_find {N : Nat} {M : Mm} {σ : Sg} (h : RelT M σ) (hI : Ig σ) (hN : 2000 ≤ N) (a b : Int32) : DoT M (fX11_find N M 137 a b) (sp_find σ a b) := by
  obtain ⟨F, A, k1, k2⟩ := id h
  have J := DoT.er h hI.2.2.1 (a := 1) 1 rfl (by decide)
  unfold fX11_find sp_find jX11_find_14
  simp only [T_c k1, T_isLaw, Option.bind_some, gd]
  by_cases g : wi a 0 5 ∧ wi b 0 5
  · rw [if_pos g, if_pos g.1, if_pos g.2]
    obtain ⟨x, hx, rfl⟩ := wi_ix (n := 5) (by decide) rfl g.1
    obtain ⟨y, hy, rfl⟩ := wi_ix (n := 5) (by decide) rfl g.2
    rw [nI_clamp (show x < 2 ^ 31 by omega), nI_clamp (show y < 2 ^ 31 by omega)]
    exact T_findN (N := N) hI hN (by omega) (by omega) 100 0 N M A (by omega) (by omega) k1 k2
  · rw [if_neg g]
    by_cases g1 : wi a 0 5
    · rw [if_pos g1, if_neg (fun q => g ⟨g1, q⟩)]; exact J
    · rw [if_neg g1]; exact J
