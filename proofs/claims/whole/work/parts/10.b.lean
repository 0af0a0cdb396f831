/-! sheets in the reference -/
def shR (A : Nat → Nat → Int32) (sh : Nat → Int32 × List Int32) : Prop := ∀ i, i < 4 → A 5 i = (sh i).1 ∧ A 6 i = nI (sh i).2.length ∧ ∀ k, k < (sh i).2.length → A 7 (40 * i + k) = (sh i).2.getD k 0
theorem TwR.shU {F : Nat → Int32} {A A' : Nat → Nat → Int32} {σ : Sg} {i : Nat} {b : Int32} {ys : List Int32} (h : TwR F A σ) (hA : ∀ k, k ≠ 5 → k ≠ 6 → k ≠ 7 → A' k = A k) (hs : shR A' (fun j => if j = i then (b, ys) else gs σ j)) : TwR F A' (shS σ i b ys) := by
  obtain ⟨q0, q1, q2, q3, q4, q5, q6⟩ := h
  exact ⟨by rw [hA 0 (by decide) (by decide) (by decide)]; exact q0, by rw [hA 1 (by decide) (by decide) (by decide)]; exact q1, q2, by rw [hA 2 (by decide) (by decide) (by decide)]; exact q3, hs, q5, by rw [hA 14 (by decide) (by decide) (by decide)]; exact q6⟩
theorem T_sheetL {N : Nat} {F : Nat → Int32} {s : Nat} (hs : s < 4) : ∀ (f i : Nat) (M : Mm) (A : Nat → Nat → Int32), TwAt M F A → i ≤ 40 → 40 - i < f → ∃ M' A', LX11_sheet_90 N f M 137 (nI s) (nI i) = some (1, M') ∧ TwAt M' F A' ∧ FrT M M' ∧ (∀ k, k ≠ 7 → A' k = A k) ∧ ∀ p, A' 7 p = if 40 * s + i ≤ p ∧ p < 40 * s + 40 then 0 else A 7 p := by
  intro f
  induction f with
  | zero => intro i M A _ _ h; omega
  | succ f ih =>
    intro i M A h h1 h2
    show ∃ M' A', BX11_sheet_90 N (LX11_sheet_90 N f) M 137 (nI s) (nI i) = some (1, M') ∧ _
    unfold BX11_sheet_90
    by_cases e : i = 40
    · subst e
      rw [if_pos (show (40 : Int32) ≤ nI 40 by decide)]
      refine ⟨M, A, rfl, h, Of.rf, fun _ _ => rfl, fun p => ?_⟩
      rw [if_neg (by omega)]
    · rw [if_neg (show ¬ (40 : Int32) ≤ nI i from nI_ge (a := i) (b := 40) (by omega) (by decide))]
      have ex : (40 : Int32) * nI s + nI i = nI (40 * s + i) := by
        rw [show (40 : Int32) * nI s = nI (40 * s) from pk_mul 40 s, nI_add]
      obtain ⟨M1, e1, e2, e3⟩ := T_put h 7 (by decide) (j := 40 * s + i) (show 40 * s + i < 160 by omega) 0
      have e1' : sI M 0 145 (nI (40 * s + i)) 0 = some M1 := e1
      obtain ⟨M2, A2, d1, d2, d3, d4, d5⟩ := ih (i + 1) M1 _ e2 (by omega) (by omega)
      refine ⟨M2, A2, ?_, d2, e3.trans d3, fun k hk => by rw [d4 k hk, u2_n hk], fun p => ?_⟩
      · simp only [T_ref h (k := 8) (x := 145) rfl, ex, e1', nI_1, Option.bind_some]
        exact d1
      · rw [d5 p]
        show (if 40 * s + (i + 1) ≤ p ∧ p < 40 * s + 40 then 0 else upd (A 7) (40 * s + i) 0 p) = _
        by_cases q : p = 40 * s + i
        · subst q
          rw [pk_us, if_pos (show 40 * s + i ≤ 40 * s + i ∧ 40 * s + i < 40 * s + 40 by omega)]
          split <;> rfl
        · rw [pk_un q]
          by_cases w : 40 * s + (i + 1) ≤ p ∧ p < 40 * s + 40
          · rw [if_pos w, if_pos (by omega)]
          · rw [if_neg w, if_neg (by omega)]
theorem T_sheetM {N : Nat} {M : Mm} {σ : Sg} (h : RelT M σ) (hI : Ig σ) (hN : 2000 ≤ N) {s : Nat} (hs : s < 4) (b : Int32) {n : Nat} (hn : n ≤ 40) : ∃ M1 M2, sI M 0 143 (nI s) b = some M1 ∧ gQ M1 11 137 7 = some 144 ∧ sI M1 0 144 (nI s) (nI n) = some M2 ∧ DoT M (LX11_sheet_90 N N M2 137 (nI s) 0) (1, shS σ s b (List.replicate n 0)) := by
  obtain ⟨F, A, k1, k2⟩ := id h
  obtain ⟨M1, e1, e2, e3⟩ := T_put k1 5 (by decide) (j := s) (show s < 4 from hs) b
  obtain ⟨M2, f1, f2, f3⟩ := T_put e2 6 (by decide) (j := s) (show s < 4 from hs) (nI n)
  obtain ⟨M3, A3, d1, d2, d3, d4, d5⟩ := T_sheetL (N := N) hs N 0 M2 _ f2 (by omega) (by omega)
  refine ⟨M1, M2, e1, T_ref e2 rfl, f1, M3, d1, ⟨F, A3, d2, k2.shU (fun k h5 h6 h7 => by rw [d4 k h7, u2_n h6, u2_n h5]) ?_⟩, (e3.trans f3).trans d3⟩
  intro i hi
  have a5 : A3 5 = upd (A 5) s b := by rw [d4 5 (by decide)]; rfl
  have a6 : A3 6 = upd (A 6) s (nI n) := by rw [d4 6 (by decide)]; rfl
  have a7 : ∀ p, A3 7 p = if 40 * s + 0 ≤ p ∧ p < 40 * s + 40 then 0 else A 7 p := d5
  have r := k2.2.2.2.2.1 i hi
  have hl := (hI.2.2.2.1 i hi).1
  dsimp only
  by_cases e : i = s
  · subst e
    rw [if_pos rfl, a5, a6, pk_us, pk_us]
    refine ⟨rfl, by simp, fun k hk => ?_⟩
    simp at hk
    rw [a7, if_pos (by omega)]
    simp [List.getD_eq_getElem?_getD, List.getElem?_replicate, hk]
  · rw [if_neg e, a5, a6, pk_un e, pk_un e]
    refine ⟨r.1, r.2.1, fun k hk => ?_⟩
    rw [a7, if_neg (by omega)]
    exact r.2.2 k hk
theorem T_sheet {N : Nat} {M : Mm} {σ : Sg} (h : RelT M σ) (hI : Ig σ) (hN : 2000 ≤ N) (s b n : Int32) : DoT M (fX11_sheet N M 137 s b n) (sp_sheet σ s b n) := by
  obtain ⟨F, A, k1, k2⟩ := id h
  have J := DoT.er h hI.2.2.1 (a := 1) 1 rfl (by decide)
  have main : ∀ (j : Nat), j < 4 → ¬ b = 0 → DoT M (jX11_sheet_35 N M 137 (nI j) b n) (if n < 0 then er σ 3 else if n ≤ 40 then (1, shS σ j b (List.replicate n.toNatClampNeg 0)) else er σ 1) := by
    intro j hj hb
    unfold jX11_sheet_35 jX11_sheet_49 jX11_sheet_65
    simp only [if_neg hb]
    by_cases g1 : n < 0
    · rw [if_pos g1, if_neg (fun q => absurd g1 (Int32.not_lt.mpr q))]
      exact DoT.er h hI.2.2.1 3 rfl (by decide)
    · rw [if_neg g1, if_pos (Int32.not_lt.mp g1)]
      by_cases g2 : n ≤ 40
      · rw [if_pos g2, if_pos g2]
        obtain ⟨k, hk, rfl⟩ := nI_of2 (M := 40) (n := 40) (by decide) g1 g2
        obtain ⟨M1, M2, e1, e2, e3, e4⟩ := T_sheetM h hI hN hj b (n := k) hk
        rw [nI_clamp (by omega)]
        simp only [T_ref k1 (k := 6) (x := 143) rfl, e1, e2, e3, Option.bind_some]
        exact e4
      · rw [if_neg g2, if_neg g2]
        exact J
  unfold fX11_sheet sp_sheet jX11_sheet_29
  simp only [T_c k1, Option.bind_some, T_isSheet, gd]
  by_cases g : wi s 0 3
  · rw [if_pos g, if_pos g]
    obtain ⟨j, hj, rfl⟩ := wi_ix (n := 3) (by decide) rfl g
    rw [nI_clamp (by omega)]
    by_cases b0 : b = 0
    · subst b0
      rw [if_pos rfl, if_pos rfl]
      unfold jX11_sheet_35 jX11_sheet_49 jX11_sheet_65
      simp only [if_true]
      obtain ⟨M1, M2, e1, e2, e3, e4⟩ := T_sheetM h hI hN (show j < 4 by omega) 0 (n := 0) (by decide)
      have e3' : sI M1 0 144 (nI j) 0 = some M2 := e3
      simp only [T_ref k1 (k := 6) (x := 143) rfl, e1, e2, e3', Option.bind_some]
      exact e4
    · rw [if_neg b0, if_neg b0]
      by_cases b8 : b = 8
      · rw [if_pos b8, if_pos (Or.inl b8)]; exact main j (by omega) b0
      · rw [if_neg b8]
        by_cases b16 : b = 16
        · rw [if_pos b16, if_pos (Or.inr (Or.inl b16))]; exact main j (by omega) b0
        · rw [if_neg b16]
          by_cases b32 : b = 32
          · rw [if_pos b32, if_pos (Or.inr (Or.inr b32))]; exact main j (by omega) b0
          · rw [if_neg b32, if_neg (fun q => by rcases q with q | q | q <;> contradiction)]
            exact J
  · rw [if_neg g, if_neg g]
    exact J
theorem T_putM {M : Mm} {F : Nat → Int32} {A : Nat → Nat → Int32} {σ : Sg} (k1 : TwAt M F A) (k2 : TwR F A σ) (hI : Ig σ) {s k : Nat} (hs : s < 4) (hk : k < (gs σ s).2.length) (v : Int32) : ∃ M1, sI M 0 145 (nI (40 * s + k)) v = some M1 ∧ RelT M1 (shS σ s (gs σ s).1 ((gs σ s).2.set k v)) ∧ FrT M M1 := by
  have hl := (hI.2.2.2.1 s hs).1
  obtain ⟨M1, e1, e2, e3⟩ := T_put k1 7 (by decide) (j := 40 * s + k) (show 40 * s + k < 160 by omega) v
  refine ⟨M1, e1, ⟨F, _, e2, k2.shU (fun q h5 h6 h7 => u2_n h7) ?_⟩, e3⟩
  intro i hi
  have r := k2.2.2.2.2.1 i hi
  have hl2 := (hI.2.2.2.1 i hi).1
  dsimp only
  have a5 : u2 A 7 (40 * s + k) v 5 = A 5 := u2_n (by decide)
  have a6 : u2 A 7 (40 * s + k) v 6 = A 6 := u2_n (by decide)
  have a7 : u2 A 7 (40 * s + k) v 7 = upd (A 7) (40 * s + k) v := rfl
  rw [a5, a6, a7]
  by_cases e : i = s
  · subst e
    rw [if_pos rfl]
    refine ⟨r.1, by rw [List.length_set]; exact r.2.1, fun l hl3 => ?_⟩
    rw [List.length_set] at hl3
    rw [getD_set hk]
    by_cases q : l = k
    · subst q; rw [pk_us, if_pos rfl]
    · rw [pk_un (by omega), if_neg q]; exact r.2.2 l hl3
  · rw [if_neg e]
    exact ⟨r.1, r.2.1, fun l hl3 => by rw [pk_un (by omega)]; exact r.2.2 l hl3⟩
theorem T_putS {M : Mm} {σ : Sg} (h : RelT M σ) (hI : Ig σ) (s i v : Int32) : DoT M (fX11_put M 137 s i v) (sp_put σ s i v) := by
  obtain ⟨F, A, k1, k2⟩ := id h
  unfold fX11_put sp_put
  simp only [T_c k1, Option.bind_some, T_isSheet, gd]
  by_cases g : wi s 0 3
  · rw [if_pos g, if_pos g]
    obtain ⟨j, hj, rfl⟩ := wi_ix (n := 3) (by decide) rfl g
    rw [nI_clamp (by omega)]
    have hl := (hI.2.2.2.1 j (by omega)).1
    have r := k2.2.2.2.2.1 j (by omega)
    have r5 : aI M 0 143 (nI j) = some (gs σ j).1 := by rw [← r.1]; exact T_get k1 5 (by decide) (show j < 4 by omega)
    have r6 : aI M 0 144 (nI j) = some (nI (gs σ j).2.length) := by rw [← r.2.1]; exact T_get k1 6 (by decide) (show j < 4 by omega)
    simp only [T_ref k1 (k := 6) (x := 143) rfl, T_ref k1 (k := 7) (x := 144) rfl, T_ref k1 (k := 8) (x := 145) rfl, r5, r6, Option.bind_some]
    by_cases z : (gs σ j).1 = 0
    · rw [if_pos z, if_pos z]
      exact DoT.er h hI.2.2.1 2 rfl (by decide)
    · rw [if_neg z, if_neg z, T_in M (a := 0) (b := nI (gs σ j).2.length - 1) (by decide) rfl]
      simp only [Option.bind_some, gd]
      by_cases g2 : wi i 0 (nI (gs σ j).2.length - 1)
      · rw [if_pos g2, if_pos g2]
        obtain ⟨k, hk, rfl⟩ := (wi_n (by omega)).mp g2
        have ex : (40 : Int32) * nI j + nI k = nI (40 * j + k) := by
          rw [show (40 : Int32) * nI j = nI (40 * j) from pk_mul 40 j, nI_add]
        obtain ⟨M', e1, e2, e3⟩ := T_putM k1 k2 hI (show j < 4 by omega) hk (nar (gs σ j).1 v)
        rw [nI_clamp (by omega), ex]
        refine ⟨M', ?_, e2, e3⟩
        unfold nar at e1
        by_cases b8 : (gs σ j).1 = 8
        · rw [if_pos b8] at e1 ⊢; rw [e1]; rfl
        · rw [if_neg b8] at e1 ⊢
          by_cases b16 : (gs σ j).1 = 16
          · rw [if_pos b16] at e1 ⊢; rw [e1]; rfl
          · rw [if_neg b16] at e1 ⊢; rw [e1]; rfl
      · rw [if_neg g2, if_neg g2]
        exact DoT.er h hI.2.2.1 1 rfl (by decide)
  · rw [if_neg g, if_neg g]
    exact DoT.er h hI.2.2.1 1 rfl (by decide)
