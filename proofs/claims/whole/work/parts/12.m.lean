/-! text in the reference: the act -/
theorem TwS.clr5 {f : Nat → Int32} {S : St} (h : TwS f S) (hL : ∀ i, i < 13 → (sr S i).length ≤ rc i) : TwS (upd f 6 0) (srow S 5 []) := by
  obtain ⟨⟨c0, c1, c2, c3, c4, c5, c6, c7, c8⟩, h1, h2, h3⟩ := h
  refine ⟨⟨by rw [pk_un (by decide)]; exact c0, by rw [pk_un (by decide)]; exact c1, by rw [pk_un (by decide)]; exact c2, by rw [pk_un (by decide)]; exact c3, by rw [pk_un (by decide)]; exact c4, by rw [pk_un (by decide)]; exact c5, pk_us, by rw [pk_un (by decide)]; exact c7, by rw [pk_un (by decide)]; exact c8⟩, fun i hi j hj => ?_, fun c hc w hw => ?_, fun u hu => (h3 u hu).up (by decide)⟩
  · by_cases e : i = 5
    · subst e
      exact absurd hj (by show ¬ j < 0; omega)
    · rw [sr_row, if_neg e] at hj ⊢
      have b := tix_in i hi j (Nat.lt_of_lt_of_le hj (hL i hi))
      rw [pk_un (by omega)]
      exact h1 i hi j hj
  · rw [pk_un (by omega)]
    exact h2 c hc w hw
theorem TwT.ag {f f' : Nat → Int32} {v : Nat} {t : Option (List Int32)} (h : TwT f v t) (hl : ∀ code, t = some code → code.length ≤ 50) (e : ∀ p, 482 + 52 * v ≤ p → p < 534 + 52 * v → f' p = f p) : TwT f' v t := by
  cases t with
  | none => show f' _ = 0; rw [e _ (by omega) (by omega)]; exact h
  | some code =>
    obtain ⟨h1, h2, h3⟩ := h
    have hc := hl code rfl
    exact ⟨by rw [e _ (by omega) (by omega)]; exact h1, by rw [e _ (by omega) (by omega)]; exact h2, fun k hk => by rw [e _ (by omega) (by omega)]; exact h3 k hk⟩
theorem TwS.tx {f f' : Nat → Int32} {S : St} {u : Nat} {code : List Int32} (h : TwS f S) (hI : Iv S) (e : ∀ p, ¬ (482 + 52 * u ≤ p ∧ p < 534 + 52 * u) → f' p = f p) (t : TwT f' u (some code)) : TwS f' (S.1, (fun v => if v = u then some code else sx S v), S.2.2) := by
  obtain ⟨⟨c0, c1, c2, c3, c4, c5, c6, c7, c8⟩, h1, h2, h3⟩ := h
  have hk : (sk S).length ≤ 12 := hI.K
  refine ⟨⟨by rw [e _ (by omega)]; exact c0, by rw [e _ (by omega)]; exact c1, by rw [e _ (by omega)]; exact c2, by rw [e _ (by omega)]; exact c3, by rw [e _ (by omega)]; exact c4, by rw [e _ (by omega)]; exact c5, by rw [e _ (by omega)]; exact c6, by rw [e _ (by omega)]; exact c7, by rw [e _ (by omega)]; exact c8⟩, fun i hi j hj => ?_, fun c hc w hw => ?_, fun v hv => ?_⟩
  · have hj' : j < (sr S i).length := hj
    have b := tix_in i hi j (Nat.lt_of_lt_of_le hj' (hI.L i hi))
    rw [e _ (by omega)]
    exact h1 i hi j hj'
  · have hc' : c < (sk S).length := hc
    rw [e _ (by omega)]
    exact h2 c hc' w hw
  · show TwT f' v (if v = u then some code else sx S v)
    by_cases z : v = u
    · subst z
      rw [if_pos rfl]; exact t
    · rw [if_neg z]
      exact (h3 v hv).ag (fun cd hc => (hI.2.2.2.2.2.1 v cd hv hc).1) (fun p p1 p2 => e p (by omega))
theorem T_txL {N : Nat} {F : Nat → Int32} {n u : Nat} (hn : n ≤ 50) (hu : u < 9) (hF : F 10 = nI n) : ∀ (k i g : Nat) (M : Mm) (A : Nat → Nat → Int32), n - i < k → k ≤ g → i ≤ n → TwAt M F A → ∃ M' A', LX11_text_125 N g M 137 (nI (482 + 52 * u)) (nI i) = some (1, M') ∧ TwAt M' F A' ∧ FrT M M' ∧ (∀ j, j ≠ 0 → A' j = A j) ∧ (∀ p, ¬ (484 + 52 * u + i ≤ p ∧ p < 484 + 52 * u + n) → A' 0 p = A 0 p) ∧ ∀ j, i ≤ j → j < n → A' 0 (484 + 52 * u + j) = A 8 j := by
  intro k
  induction k with
  | zero => intro i g M A hk; omega
  | succ k ih =>
    intro i g M A hk hg hi h
    obtain ⟨g, rfl⟩ : ∃ j, g = j + 1 := ⟨g - 1, by omega⟩
    have e10 : gI M 11 137 10 = some (nI n) := by rw [← hF]; exact T_int h rfl
    show ∃ M' A', BX11_text_125 N (LX11_text_125 N g) M 137 (nI (482 + 52 * u)) (nI i) = some (1, M') ∧ _
    unfold BX11_text_125
    rw [e10, Option.bind_some]
    by_cases e : i = n
    · subst e
      rw [if_pos (nI_le (Nat.le_refl _) (by omega))]
      exact ⟨M, A, rfl, h, Of.rf, fun _ _ => rfl, fun _ _ => rfl, fun j a b => by omega⟩
    · rw [if_neg (nI_ge (by omega) (by omega))]
      have q9 : gQ M 11 137 9 = some 146 := T_ref h rfl
      have e8 : aI M 0 146 (nI i) = some (A 8 i) := T_get h 8 (by decide) (show i < 50 by omega)
      obtain ⟨M1, a1, a2, a3⟩ := T_mp h (j := 482 + 52 * u + 2 + i) (by omega) (A 8 i)
      obtain ⟨M2, A2, b1, b2, b3, b4, b5, b6⟩ := ih (i + 1) g M1 _ (by omega) (by omega) (by omega) a2
      refine ⟨M2, A2, ?_, b2, a3.trans b3, fun j hj => ?_, fun p hp => ?_, fun j h1 h2 => ?_⟩
      · rw [T_q0 h, Option.bind_some, q9, Option.bind_some, e8, Option.bind_some, show nI (482 + 52 * u) + 2 + nI i = nI (482 + 52 * u + 2 + i) from by rw [show (2 : Int32) = nI 2 from rfl, nI_add, nI_add], a1, Option.bind_some, nI_1]
        exact b1
      · rw [b4 j hj, u2_n hj]
      · rw [b5 p (by omega)]
        show upd (A 0) (482 + 52 * u + 2 + i) (A 8 i) p = _
        exact pk_un (by omega)
      · by_cases z : j = i
        · subst z
          rw [b5 _ (by omega)]
          show upd (A 0) (482 + 52 * u + 2 + j) (A 8 j) (484 + 52 * u + j) = _
          rw [show 484 + 52 * u + j = 482 + 52 * u + 2 + j by omega]
          exact pk_us
        · rw [b6 j (by omega) h2]; exact congrFun (u2_n (by decide)) _
theorem T_txN {N : Nat} {M : Mm} {σ : Sg} {F : Nat → Int32} {A : Nat → Nat → Int32} (h : TwAt M F A) (r : TwR F A σ) (hI : Ig σ) {p : Nat} (hp : F 11 = nI p) (x : Int32) : DoT M (jX11_text_72 N M 137 x) (-10 - nI p, clr5 σ) := by
  obtain ⟨M1, a1, a2, a3⟩ := T_mp h (j := 6) (by decide) 0
  have a1' : sI M 0 138 6 0 = some M1 := a1
  have t1 : TwR F (u2 A 0 6 0) (clr5 σ) := r.m0 (r.1.clr5 hI.1.L) (fun k hk => u2_n hk)
  have e11 : gI M1 11 137 11 = some (nI p) := by rw [← hp]; exact T_int a2 rfl
  refine ⟨M1, ?_, ⟨F, _, a2, t1⟩, a3⟩
  unfold jX11_text_72 jX11_text_73
  rw [T_q0 h, Option.bind_some, a1', Option.bind_some, if_pos rfl, e11, Option.bind_some]
theorem T_txY {N : Nat} {M : Mm} {σ : Sg} {F : Nat → Int32} {A : Nat → Nat → Int32} {u : Nat} {code : List Int32} (h : TwAt M F A) (r : TwR F A σ) (hI : Ig σ) (hN : 2000 ≤ N) (hu : u < 9) (hc : code.length ≤ 50) (hF : F 10 = nI code.length) (h8 : ∀ k, k < code.length → A 8 k = tw (code.getD k 0)) : DoT M (jX11_text_73 N M 137 (nI u) 1) (1, txS (clr5 σ) u code) := by
  have hc5 : Iv (srow (g0 σ) 5 []) := hI.1.row (i := 5) (by omega) (by simp) (fun _ x hx => by simp at hx)
  obtain ⟨M1, a1, a2, a3⟩ := T_mp h (j := 6) (by decide) 0
  have a1' : sI M 0 138 6 0 = some M1 := a1
  have t1 : TwR F (u2 A 0 6 0) (clr5 σ) := r.m0 (r.1.clr5 hI.1.L) (fun k hk => u2_n hk)
  obtain ⟨M2, b1, b2, b3⟩ := T_mp a2 (j := 482 + 52 * u) (by omega) 1
  have e10 : gI M2 11 137 10 = some (nI code.length) := by rw [← hF]; exact T_int b2 rfl
  obtain ⟨M3, c1, c2, c3⟩ := T_mp b2 (j := 482 + 52 * u + 1) (by omega) (nI code.length)
  obtain ⟨M4, A4, d1, d2, d3, d4, d5, d6⟩ := T_txL (N := N) hc hu hF (code.length + 1) 0 N M3 _ (by omega) (by omega) (by omega) c2
  have w : ∀ p, u2 (u2 (u2 A 0 6 0) 0 (482 + 52 * u) 1) 0 (482 + 52 * u + 1) (nI code.length) 0 p = upd (upd (u2 A 0 6 0 0) (482 + 52 * u) 1) (482 + 52 * u + 1) (nI code.length) p := fun _ => rfl
  have k4 : ∀ j, j ≠ 0 → A4 j = u2 A 0 6 0 j := fun j hj => by rw [d4 j hj, u2_n hj, u2_n hj]
  have t4 : TwR F A4 (txS (clr5 σ) u code) := by
    refine t1.m0 (t1.1.tx hc5 (f' := A4 0) (u := u) (code := code) (fun p hp => ?_) ⟨?_, ?_, fun k hk => ?_⟩) k4
    · rw [d5 p (by omega), w, pk_un (by omega), pk_un (by omega)]
    · rw [d5 _ (by omega), w, pk_un (by omega)]; exact pk_us
    · rw [d5 _ (by omega), w, show 483 + 52 * u = 482 + 52 * u + 1 by omega]; exact pk_us
    · rw [d6 k (by omega) hk, u2_n (by decide), u2_n (by decide), u2_n (by decide)]
      exact h8 k hk
  refine ⟨M4, ?_, ⟨F, A4, d2, t4⟩, ((a3.trans b3).trans c3).trans d3⟩
  unfold jX11_text_73
  rw [T_q0 h, Option.bind_some, a1', Option.bind_some, if_neg (by decide), T_q0 a2, Option.bind_some, show (482 : Int32) + 52 * nI u = nI (482 + 52 * u) from by rw [show (52 : Int32) * nI u = nI (52 * u) from pk_mul 52 u]; exact nI_add 482 (52 * u), b1, Option.bind_some, T_q0 b2, Option.bind_some, e10, Option.bind_some, nI_1, c1, Option.bind_some]
  exact d1
theorem T_text {N : Nat} {M : Mm} {σ : Sg} (h : RelT M σ) (hI : Ig σ) (hN : 2000 ≤ N) (a : Int32) : DoT M (fX11_text N M 137 a) (sp_text σ a) := by
  have J := DoT.er h hI.2.2.1 (a := 1) 1 rfl (by decide)
  have h50 : (sr (g0 σ) 5).length ≤ 50 := hI.1.L 5 (by decide)
  obtain ⟨F, A, k1, k2⟩ := h
  have e08 : fX11_in M a.toInt64 0 8 = some (if wi a 0 8 then 1 else 0) := T_in M (by decide) (by decide)
  unfold fX11_text sp_text
  rw [T_c k1, Option.bind_some, e08, Option.bind_some]
  by_cases g : wi a 0 8
  · rw [if_pos g, if_pos g, if_neg (show ¬ (1 : Int32) = 0 by decide)]
    obtain ⟨u, hu, rfl⟩ := wi_ix (n := 8) (by decide) rfl g
    rw [nI_clamp (show u < 2 ^ 31 by omega)]
    obtain ⟨M1, a1, a2, a3⟩ := T_set k1 (k := 10) 0 rfl (by decide)
    obtain ⟨M2, b1, b2, b3⟩ := T_set a2 (k := 11) 0 rfl (by decide)
    obtain ⟨M3, c1, c2, c3⟩ := T_set b2 (k := 12) 0 rfl (by decide)
    obtain ⟨M4, d1, d2, d3⟩ := T_set c2 (k := 13) (nI u) rfl (by decide)
    obtain ⟨M5, e1, e2, e3⟩ := T_set d2 (k := 14) 0 rfl (by decide)
    have R0 : RdT M5 σ u 0 [] 0 := ⟨_, A, e2, k2.f rfl rfl, rfl, rfl, rfl, rfl, rfl, fun k hk => absurd hk (Nat.not_lt_zero k)⟩
    obtain ⟨M6, f1, f2, f3, f4⟩ := T_rd hI hN hu R0
    have fr : FrT M M6 := ((((a3.trans b3).trans c3).trans d3).trans e3).trans f4
    rw [a1, Option.bind_some, b1, Option.bind_some, c1, Option.bind_some, d1, Option.bind_some, e1, Option.bind_some, f1, Option.bind_some]
    have G := rdT_ok (xs := sr (g0 σ) 5) (u := u)
    generalize rdT (sr (g0 σ) 5) u = r at f2 f3 G ⊢
    have gl := G.1
    by_cases y : r.1 = true
    · have d := f2 y
      obtain ⟨g4, es, g5, g6, g7⟩ := G.2.2 y
      rw [List.nil_append] at g5
      obtain ⟨F', A', t1, t2, t3, t4, -, -, -, t8⟩ := id d
      rw [d.i.2.2.2.2, Option.bind_some, if_pos rfl, d.i.2.1, Option.bind_some, T_q0 t1, Option.bind_some, (T_cnt t1 t2).2.2.2.2.2.2.1, Option.bind_some]
      by_cases z : r.2.1 = (sr (g0 σ) 5).length
      · rw [if_pos (show nI r.2.1 = nI (sr (g0 σ) 5).length by rw [z]), if_pos (show r.1 = true ∧ r.2.1 = (sr (g0 σ) 5).length from ⟨y, z⟩)]
        obtain ⟨M7, w1, w2, w3⟩ := T_txY (N := N) (u := u) t1 t2 hI hN (by omega) (by rw [g5]; omega) t3 t8
        exact ⟨M7, w1, w2, fr.trans w3⟩
      · rw [if_neg (show ¬ nI r.2.1 = nI (sr (g0 σ) 5).length from fun w => z ((nI_eq (by omega) (by omega)).mp w)), if_neg (show ¬ (r.1 = true ∧ r.2.1 = (sr (g0 σ) 5).length) from fun w => z w.2)]
        obtain ⟨M7, w1, w2, w3⟩ := T_txN (N := N) t1 t2 hI t4 (nI u)
        exact ⟨M7, w1, w2, fr.trans w3⟩
    · have d := f3 y
      obtain ⟨F', A', t1, t2, t4, -⟩ := id d
      rw [d.i.2.2, Option.bind_some, if_neg (by decide), if_neg (show ¬ (r.1 = true ∧ r.2.1 = (sr (g0 σ) 5).length) from fun w => y w.1)]
      obtain ⟨M7, w1, w2, w3⟩ := T_txN (N := N) t1 t2 hI t4 (nI u)
      exact ⟨M7, w1, w2, fr.trans w3⟩
  · rw [if_neg g, if_neg g, if_pos rfl]; exact J
