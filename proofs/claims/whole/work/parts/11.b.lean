/-! onTape (reference) -/
theorem tpG_tape (σ : Sg) (bar : Int32) : tpG σ bar = (tape (g0 σ) bar).map nI := by
  unfold tpG tape
  rw [tpS_N]
theorem T_isRing {M : Mm} {F : Nat → Int32} {A : Nat → Nat → Int32} {σ : Sg} (h : TwAt M F A) (r : TwR F A σ) (a : Int32) : fX11_isRing M 137 a = some (if wi a 0 (nI (sr (g0 σ) 2).length - 1) then 1 else 0) := by
  simp only [fX11_isRing, T_c h, T_q0 h, (T_cnt h r).2.1, Option.bind_some]
  exact T_z M a 0 _ (by decide) rfl
theorem C_isRing {M : Mm} {σ : Sg} (h : RelC M σ) (a : Int32) : fX10_isRing M 0 a = some (if wi a 0 (nI (sr (g0 σ) 2).length - 1) then 1 else 0) := by
  simp only [fX10_isRing, h.c, h.q0, N_rings h.2.1, Option.bind_some]
  exact C_z M a 0 _
theorem DoT.tr {M M1 : Mm} {r : Option (Int32 × Mm)} {a : An} (h : FrT M M1) (g : DoT M1 r a) : DoT M r a := by
  obtain ⟨M', e1, e2, e3⟩ := g
  exact ⟨M', e1, e2, h.trans e3⟩
theorem T_onTape {N : Nat} {M : Mm} {σ : Sg} (h : RelT M σ) (hI : Ig σ) (hN : 2000 ≤ N) (bar i : Int32) : DoT M (fX11_onTape N M 137 bar i) (sp_onTape σ bar i) := by
  obtain ⟨F, A, k1, k2⟩ := id h
  have J := DoT.er h hI.2.2.1 (a := 1) 1 rfl (by decide)
  have J2 := DoT.er h hI.2.2.1 (a := 2) 2 rfl (by decide)
  have hl : (sr (g0 σ) 2).length ≤ 96 := hI.1.L 2 (by decide)
  have ht := tape_len (g0 σ) bar
  unfold fX11_onTape sp_onTape jX11_onTape_12
  simp only [T_c k1, T_isBar k1 k2, T_taped k1 k2 hI hN, Option.bind_some, gd, tpG_tape, List.length_map]
  by_cases g : isB (g0 σ) bar ∧ ¬ i < 0
  · rw [if_pos g, if_pos g.1, if_pos (Int32.not_lt.mp g.2)]
    obtain ⟨j, hj, rfl⟩ := nI_of g.2
    rw [nI_clamp hj, tpd_tape hI.1 bar hj]
    by_cases z : j < (tape (g0 σ) bar).length
    · have hm := mem_tape.mp (List.getElem_mem z)
      rw [if_pos z, List.getElem?_eq_getElem z]
      simp only
      rw [if_pos (nI_pos' (by omega)), List.getD_eq_getElem?_getD, List.getElem?_map, List.getElem?_eq_getElem z]
      exact DoT.same h
    · rw [if_neg z, List.getElem?_eq_none (by omega)]
      simp only
      rw [if_neg (by decide)]
      exact J2
  · rw [if_neg g]
    by_cases g1 : isB (g0 σ) bar
    · rw [if_pos g1, if_neg (fun q => g ⟨g1, Int32.not_lt.mpr q⟩)]; exact J
    · rw [if_neg g1]; exact J
/-! gaps -/
def gpB (S : St) (r : Nat) : Nat → Option Nat
  | 0 => none
  | k + 1 => if (sr S 2).getD k 0 = (sr S 2).getD r 0 ∧ ahd S k r ∧ ∀ b, gpB S r k = some b → ahd S b k then some k else gpB S r k
theorem gpB_ok (S : St) (r : Nat) : ∀ k, (gpB S r k = none ∧ ∀ o, o < k → (sr S 2).getD o 0 = (sr S 2).getD r 0 → ¬ ahd S o r) ∨ ∃ b, gpB S r k = some b ∧ b < k ∧ (sr S 2).getD b 0 = (sr S 2).getD r 0 ∧ ahd S b r ∧ ∀ o, o < k → (sr S 2).getD o 0 = (sr S 2).getD r 0 → ahd S o r → o = b ∨ ahd S o b
  | 0 => Or.inl ⟨rfl, fun o h => by omega⟩
  | k + 1 => by
    have h := gpB_ok S r k
    by_cases z : (sr S 2).getD k 0 = (sr S 2).getD r 0 ∧ ahd S k r ∧ ∀ b, gpB S r k = some b → ahd S b k
    · right
      refine ⟨k, if_pos z, by omega, z.1, z.2.1, fun o ho h1 h2 => ?_⟩
      by_cases e : o = k
      · exact Or.inl e
      · right
        rcases h with ⟨h3, h4⟩ | ⟨b, h3, h4, h5, h6, h7⟩
        · exact absurd h2 (h4 o (by omega) h1)
        · rcases h7 o (by omega) h1 h2 with q | q
          · subst q; exact z.2.2 _ h3
          · exact ahd_tr q (z.2.2 _ h3)
    · have e : gpB S r (k + 1) = gpB S r k := if_neg z
      rw [e]
      rcases h with ⟨h3, h4⟩ | ⟨b, h3, h4, h5, h6, h7⟩
      · refine Or.inl ⟨h3, fun o ho h1 => ?_⟩
        by_cases e : o = k
        · subst e
          exact fun q => z ⟨h1, q, fun b hb => by rw [h3] at hb; cases hb⟩
        · exact h4 o (by omega) h1
      · refine Or.inr ⟨b, h3, by omega, h5, h6, fun o ho h1 h2 => ?_⟩
        by_cases e : o = k
        · subst e
          by_cases y : o = b
          · exact Or.inl y
          · rcases ahd_tot (S := S) y with q | q
            · exact Or.inr q
            · exact absurd ⟨h1, h2, fun b' hb' => by rw [h3] at hb'; cases hb'; exact q⟩ z
        · exact h7 o (by omega) h1 h2
/-- what the gap is, the ring ahead being known -/
def gpV (S : St) (r : Nat) (o : Option Nat) : Int32 := match o with
  | none => 999
  | some b => if 999 ≤ (sr S 3).getD r 0 - (sr S 3).getD b 0 then 999 else (sr S 3).getD r 0 - (sr S 3).getD b 0
def gap (S : St) (r : Nat) : Int32 := gpV S r (gpB S r (sr S 2).length)
theorem gap_tape {S : St} (hI : Iv S) {bar : Int32} {j r : Nat} (h : (tape S bar)[j]? = some r) : gap S r = gpV S r (if j = 0 then none else (tape S bar)[j - 1]?) := by
  have hp := List.pairwise_iff_getElem.mp (tape_pw hI bar)
  have hr := mem_tape.mp (List.mem_of_getElem? h)
  have hj := (List.getElem?_eq_some_iff.mp h).1
  have hrj : (tape S bar)[j] = r := (List.getElem?_eq_some_iff.mp h).2
  have key : ∀ o, o < (sr S 2).length → (sr S 2).getD o 0 = (sr S 2).getD r 0 → ahd S o r → ∃ i, ∃ hi : i < (tape S bar).length, i < j ∧ (tape S bar)[i] = o := by
    intro o ho h1 h2
    obtain ⟨i, hi, e⟩ := List.getElem_of_mem ((mem_tape (bar := bar)).mpr ⟨ho, h1.trans hr.2⟩)
    refine ⟨i, hi, ?_, e⟩
    rcases Nat.lt_trichotomy i j with q | q | q
    · exact q
    · subst q
      rw [hrj] at e
      subst e
      exact absurd h2 ahd_ir
    · have w := hp j i hj hi q
      rw [hrj, e] at w
      exact absurd w (ahd_as h2)
  unfold gap
  congr 1
  rcases gpB_ok S r (sr S 2).length with ⟨h3, h4⟩ | ⟨b, h3, h4, h5, h6, h7⟩
  · rw [h3]
    by_cases z : j = 0
    · rw [if_pos z]
    · exfalso
      have w := hp (j - 1) j (by omega) hj (by omega)
      rw [hrj] at w
      have m := mem_tape.mp (List.getElem_mem (show j - 1 < (tape S bar).length by omega))
      exact h4 _ m.1 (by rw [m.2, hr.2]) w
  · rw [h3]
    obtain ⟨i, hi, hij, e⟩ := key b h4 h5 h6
    rw [if_neg (by omega)]
    by_cases y : i = j - 1
    · subst y
      rw [List.getElem?_eq_getElem hi, e]
    · exfalso
      have m := mem_tape.mp (List.getElem_mem (show j - 1 < (tape S bar).length by omega))
      have w1 := hp i (j - 1) hi (by omega) (by omega)
      have w2 := hp (j - 1) j (by omega) hj (by omega)
      rw [hrj] at w2
      rw [e] at w1
      rcases h7 _ m.1 (by rw [m.2, hr.2]) w2 with q | q
      · rw [q] at w1; exact ahd_ir w1
      · exact ahd_as w1 q
def enO (o : Option Nat) : Int32 := match o with
  | none => -1
  | some b => nI b
theorem T_gapL {N : Nat} {M : Mm} {F : Nat → Int32} {A : Nat → Nat → Int32} {σ : Sg} (h : TwAt M F A) (r : TwR F A σ) (hI : Ig σ) {x : Nat} (hx : x < (sr (g0 σ) 2).length) : ∀ (k i f : Nat), i + k = (sr (g0 σ) 2).length → k < f → LX11_gapOf_4 N f M 137 (nI x) (enO (gpB (g0 σ) x i)) (nI i) = some (gap (g0 σ) x) := by
  have hl : (sr (g0 σ) 2).length ≤ 96 := hI.1.L 2 (by decide)
  intro k
  induction k with
  | zero =>
    intro i f hk hf
    obtain ⟨f, rfl⟩ : ∃ g, f = g + 1 := ⟨f - 1, by omega⟩
    have e : i = (sr (g0 σ) 2).length := by omega
    subst e
    show BX11_gapOf_4 N (LX11_gapOf_4 N f) M 137 _ _ _ = _
    unfold BX11_gapOf_4
    simp only [T_q0 h, (T_cnt h r).2.1, Option.bind_some]
    rw [if_pos (nI_le (Nat.le_refl _) (by omega))]
    have ex : fX11_ring M 137 (nI x) 1 = some ((sr (g0 σ) 3).getD x 0) := T_rg h r hI hx (w := 1) (by decide)
    unfold gap
    rcases gpB_ok (g0 σ) x (sr (g0 σ) 2).length with ⟨h3, -⟩ | ⟨b, h3, h4, -⟩
    · rw [h3, if_neg (by decide)]
      show (if (999 : Int32) ≤ 999 then some (999 : Int32) else some 999) = _
      rw [if_pos (by decide)]; rfl
    · have eb : fX11_ring M 137 (nI b) 1 = some ((sr (g0 σ) 3).getD b 0) := T_rg h r hI h4 (w := 1) (by decide)
      rw [h3]
      show (if 0 ≤ nI b then _ else _) = _
      rw [if_pos (nI_pos' (by omega)), ex]
      show ((fX11_ring M 137 (nI b) 1).bind _) = _
      rw [eb]
      show (if (999 : Int32) ≤ (sr (g0 σ) 3).getD x 0 - (sr (g0 σ) 3).getD b 0 then some (999 : Int32) else some ((sr (g0 σ) 3).getD x 0 - (sr (g0 σ) 3).getD b 0)) = some (if 999 ≤ (sr (g0 σ) 3).getD x 0 - (sr (g0 σ) 3).getD b 0 then 999 else (sr (g0 σ) 3).getD x 0 - (sr (g0 σ) 3).getD b 0)
      by_cases z : (999 : Int32) ≤ (sr (g0 σ) 3).getD x 0 - (sr (g0 σ) 3).getD b 0
      · rw [if_pos z, if_pos z]
      · rw [if_neg z, if_neg z]
  | succ k ih =>
    intro i f hk hf
    obtain ⟨f, rfl⟩ : ∃ g, f = g + 1 := ⟨f - 1, by omega⟩
    have q := ih (i + 1) f (by omega) (by omega)
    have hi : i < (sr (g0 σ) 2).length := by omega
    have ei : fX11_ring M 137 (nI i) 0 = some ((sr (g0 σ) 2).getD i 0) := T_rg h r hI hi (w := 0) (by decide)
    have ex : fX11_ring M 137 (nI x) 0 = some ((sr (g0 σ) 2).getD x 0) := T_rg h r hI hx (w := 0) (by decide)
    show BX11_gapOf_4 N (LX11_gapOf_4 N f) M 137 _ _ _ = _
    unfold BX11_gapOf_4
    simp only [T_q0 h, (T_cnt h r).2.1, ei, ex, T_isAhead h r hI hi hx, Option.bind_some, gd, nI_1]
    rw [if_neg (nI_ge hi (by omega))]
    have eg : gpB (g0 σ) x (i + 1) = if (sr (g0 σ) 2).getD i 0 = (sr (g0 σ) 2).getD x 0 ∧ ahd (g0 σ) i x ∧ ∀ b, gpB (g0 σ) x i = some b → ahd (g0 σ) b i then some i else gpB (g0 σ) x i := rfl
    rw [eg] at q
    by_cases z1 : (sr (g0 σ) 2).getD i 0 = (sr (g0 σ) 2).getD x 0
    · rw [if_pos z1]
      by_cases z2 : ahd (g0 σ) i x
      · rw [if_pos z2]
        rcases gpB_ok (g0 σ) x i with ⟨h3, -⟩ | ⟨b, h3, h4, -⟩
        · rw [if_pos ⟨z1, z2, fun b hb => by rw [h3] at hb; cases hb⟩] at q
          rw [h3, if_pos (by decide)]
          exact q
        · rw [h3] at q ⊢
          show (if nI b < 0 then _ else _) = _
          rw [if_neg (nI_pos (by omega))]
          show ((fX11_isAhead M 137 (nI b) (nI i)).bind _) = _
          rw [T_isAhead h r hI (show b < (sr (g0 σ) 2).length by omega) hi]
          simp only [Option.bind_some, gd]
          by_cases z3 : ahd (g0 σ) b i
          · rw [if_pos z3]
            rw [if_pos ⟨z1, z2, fun b' hb => by cases hb; exact z3⟩] at q
            exact q
          · rw [if_neg z3]
            rw [if_neg (fun w => z3 (w.2.2 b rfl))] at q
            exact q
      · rw [if_neg z2]
        rw [if_neg (fun w => z2 w.2.1)] at q
        exact q
    · rw [if_neg z1]
      rw [if_neg (fun w => z1 w.1)] at q
      exact q
theorem T_gap {N : Nat} {M : Mm} {F : Nat → Int32} {A : Nat → Nat → Int32} {σ : Sg} (h : TwAt M F A) (r : TwR F A σ) (hI : Ig σ) (hN : 2000 ≤ N) {x : Nat} (hx : x < (sr (g0 σ) 2).length) : fX11_gapOf N M 137 (nI x) = some (gap (g0 σ) x) := by
  have hl : (sr (g0 σ) 2).length ≤ 96 := hI.1.L 2 (by decide)
  have q := T_gapL (N := N) h r hI hx (sr (g0 σ) 2).length 0 N (by omega) (by omega)
  simp only [fX11_gapOf, T_c h, Option.bind_some]
  exact q
