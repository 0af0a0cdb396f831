/-! image, restore: the reference -/
def sp_image (σ : Sg) : An := (gi σ + 1, (g0 σ, g0 σ, gi σ + 1, σ.2.2.2))
def sp_restore (σ : Sg) : An := if gi σ = 0 then er σ 2 else (nI (sr (g1 σ) 2).length, (g1 σ, σ.2))
theorem TwS.cg {f g : Nat → Int32} {S : St} (h : TwS f S) (hI : Iv S) (e : ∀ p, p < 950 → g p = f p) : TwS g S := by
  obtain ⟨⟨c0, c1, c2, c3, c4, c5, c6, c7, c8⟩, h1, h2, h3⟩ := h
  refine ⟨⟨by rw [e _ (by decide)]; exact c0, by rw [e _ (by decide)]; exact c1, by rw [e _ (by decide)]; exact c2, by rw [e _ (by decide)]; exact c3, by rw [e _ (by decide)]; exact c4, by rw [e _ (by decide)]; exact c5, by rw [e _ (by decide)]; exact c6, by rw [e _ (by decide)]; exact c7, by rw [e _ (by decide)]; exact c8⟩, fun i hi j hj => ?_, fun c hc w hw => ?_, fun u hu => ?_⟩
  · have b := tix_in i hi j (Nat.lt_of_lt_of_le hj (hI.L i hi))
    rw [e _ (by omega)]; exact h1 i hi j hj
  · have := hI.K
    rw [e _ (by omega)]; exact h2 c hc w hw
  · have q := h3 u hu
    cases hx : sx S u with
    | none =>
      rw [hx] at q
      show g (482 + 52 * u) = 0
      rw [e _ (by omega)]; exact q
    | some code =>
      rw [hx] at q
      have l := (hI.2.2.2.2.2.1 u code hu hx).1
      obtain ⟨q1, q2, q3⟩ := q
      refine ⟨by rw [e _ (by omega)]; exact q1, by rw [e _ (by omega)]; exact q2, fun k hk => ?_⟩
      rw [e _ (by omega)]; exact q3 k hk
theorem T_imgL {N : Nat} {F : Nat → Int32} : ∀ (f i : Nat) (M : Mm) (A : Nat → Nat → Int32), TwAt M F A → i ≤ 950 → 950 - i < f → ∃ M' A', LX11_image_2 N f M 137 (nI i) = some (F 2 + 1, M') ∧ TwAt M' (u1 F 2 (F 2 + 1)) A' ∧ FrT M M' ∧ (∀ k, k ≠ 1 → A' k = A k) ∧ ∀ p, A' 1 p = if i ≤ p ∧ p < 950 then A 0 p else A 1 p := by
  intro f
  induction f with
  | zero => intro i M A _ _ h; omega
  | succ f ih =>
    intro i M A h h1 h2
    show ∃ M' A', BX11_image_2 N (LX11_image_2 N f) M 137 (nI i) = some (F 2 + 1, M') ∧ _
    unfold BX11_image_2
    by_cases e : i = 950
    · subst e
      rw [if_pos (show (950 : Int32) ≤ nI 950 by decide)]
      obtain ⟨M1, e1, e2, e3⟩ := T_set h (k := 2) (F 2 + 1) rfl (by decide)
      refine ⟨M1, A, ?_, e2, e3, fun _ _ => rfl, fun p => by rw [if_neg (by omega)]⟩
      simp only [T_int h (k := 2) rfl, e1, T_int e2 (k := 2) rfl, Option.bind_some]
      rfl
    · rw [if_neg (show ¬ (950 : Int32) ≤ nI i from nI_ge (a := i) (b := 950) (by omega) (by decide))]
      obtain ⟨M1, e1, e2, e3⟩ := T_put h 1 (by decide) (j := i) (show i < 950 by omega) (A 0 i)
      have e1' : sI M 0 139 (nI i) (A 0 i) = some M1 := e1
      obtain ⟨M2, A2, d1, d2, d3, d4, d5⟩ := ih (i + 1) M1 _ e2 (by omega) (by omega)
      refine ⟨M2, A2, ?_, d2, e3.trans d3, fun k hk => by rw [d4 k hk, u2_n hk], fun p => ?_⟩
      · simp only [T_ref h (k := 1) (x := 139) rfl, T_q0 h, T_m h (show i < 950 by omega), e1', nI_1, Option.bind_some]
        exact d1
      · rw [d5 p]
        show (if i + 1 ≤ p ∧ p < 950 then A 0 p else upd (A 1) i (A 0 i) p) = _
        by_cases q : p = i
        · subst q
          rw [if_neg (by omega), pk_us, if_pos (by omega)]
        · rw [pk_un q]
          by_cases w : i + 1 ≤ p ∧ p < 950
          · rw [if_pos w, if_pos (by omega)]
          · rw [if_neg w, if_neg (by omega)]
theorem T_image {N : Nat} {M : Mm} {σ : Sg} (h : RelT M σ) (hI : Ig σ) (hN : 2000 ≤ N) : DoT M (fX11_image N M 137) (sp_image σ) := by
  obtain ⟨F, A, k1, k2⟩ := id h
  obtain ⟨M2, A2, d1, d2, d3, d4, d5⟩ := T_imgL (N := N) N 0 M A k1 (by omega) (by omega)
  obtain ⟨q0, q1, q2, q3, q4, q5, q6⟩ := k2
  have s1 : TwS (A2 1) (g0 σ) := q0.cg hI.1 (fun p hp => by rw [d5 p, if_pos (by omega)])
  refine ⟨M2, ?_, ⟨_, A2, d2, ?_, fun _ => s1, ?_, ?_, ?_, ?_, ?_⟩, d3⟩
  · simp only [fX11_image, T_c k1, Option.bind_some]
    show LX11_image_2 N N M 137 (nI 0) = some (gi σ + 1, M2)
    rw [d1, q2]
  · rw [d4 0 (by decide)]; exact q0
  · show upd F 2 (F 2 + 1) 2 = gi σ + 1
    rw [pk_us, q2]
  · rw [d4 2 (by decide)]; exact q3
  · rw [d4 5 (by decide), d4 6 (by decide), d4 7 (by decide)]; exact q4
  · show upd F 2 (F 2 + 1) 21 = nI (gt σ).length
    rw [pk_un (by decide)]; exact q5
  · rw [d4 14 (by decide)]; exact q6
theorem T_rstL {N : Nat} {F : Nat → Int32} : ∀ (f i : Nat) (M : Mm) (A : Nat → Nat → Int32), TwAt M F A → i ≤ 950 → 950 - i < f → ∃ M' A', LX11_restore_15 N f M 137 (nI i) = some (A' 0 1, M') ∧ TwAt M' F A' ∧ FrT M M' ∧ (∀ k, k ≠ 0 → A' k = A k) ∧ ∀ p, A' 0 p = if i ≤ p ∧ p < 950 then A 1 p else A 0 p := by
  intro f
  induction f with
  | zero => intro i M A _ _ h; omega
  | succ f ih =>
    intro i M A h h1 h2
    show ∃ (M' : Mm) (A' : Nat → Nat → Int32), BX11_restore_15 N (LX11_restore_15 N f) M 137 (nI i) = some (A' 0 1, M') ∧ _
    unfold BX11_restore_15
    by_cases e : i = 950
    · subst e
      rw [if_pos (show (950 : Int32) ≤ nI 950 by decide)]
      refine ⟨M, A, ?_, h, Of.rf, fun _ _ => rfl, fun p => by rw [if_neg (by omega)]⟩
      have : aI M 0 138 1 = some (A 0 1) := T_m h (j := 1) (by decide)
      simp only [T_q0 h, this, Option.bind_some]
    · rw [if_neg (show ¬ (950 : Int32) ≤ nI i from nI_ge (a := i) (b := 950) (by omega) (by decide))]
      obtain ⟨M1, e1, e2, e3⟩ := T_mp h (j := i) (show i < 950 by omega) (A 1 i)
      have e0 : aI M 0 139 (nI i) = some (A 1 i) := T_get h 1 (by decide) (show i < 950 by omega)
      obtain ⟨M2, A2, d1, d2, d3, d4, d5⟩ := ih (i + 1) M1 _ e2 (by omega) (by omega)
      refine ⟨M2, A2, ?_, d2, e3.trans d3, fun k hk => by rw [d4 k hk, u2_n hk], fun p => ?_⟩
      · simp only [T_ref h (k := 1) (x := 139) rfl, T_q0 h, e0, e1, nI_1, Option.bind_some]
        exact d1
      · rw [d5 p]
        show (if i + 1 ≤ p ∧ p < 950 then A 1 p else upd (A 0) i (A 1 i) p) = _
        by_cases q : p = i
        · subst q
          rw [if_neg (by omega), pk_us, if_pos (by omega)]
        · rw [pk_un q]
          by_cases w : i + 1 ≤ p ∧ p < 950
          · rw [if_pos w, if_pos (by omega)]
          · rw [if_neg w, if_neg (by omega)]
theorem T_restore {N : Nat} {M : Mm} {σ : Sg} (h : RelT M σ) (hI : Ig σ) (hN : 2000 ≤ N) : DoT M (fX11_restore N M 137) (sp_restore σ) := by
  obtain ⟨F, A, k1, k2⟩ := id h
  have J := DoT.er h hI.2.2.1 (a := 2) 2 rfl (by decide)
  unfold fX11_restore sp_restore
  have e2 : gI M 11 137 2 = some (gi σ) := by rw [T_int k1 (k := 2) rfl, k2.2.2.1]
  simp only [T_c k1, e2, Option.bind_some]
  by_cases g : gi σ = 0
  · rw [if_pos g, if_pos g]; exact J
  · rw [if_neg g, if_neg g]
    obtain ⟨M2, A2, d1, d2, d3, d4, d5⟩ := T_rstL (N := N) N 0 M A k1 (by omega) (by omega)
    have s1 : TwS (A2 0) (g1 σ) := (k2.2.1 g).cg hI.2.1 (fun p hp => by rw [d5 p, if_pos (by omega)])
    refine ⟨M2, ?_, ⟨F, A2, d2, k2.m0 s1 d4⟩, d3⟩
    show LX11_restore_15 N N M 137 (nI 0) = some (nI (sr (g1 σ) 2).length, M2)
    rw [d1, s1.1.2.1]
