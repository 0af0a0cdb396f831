/-! what holds of every state stays: the other acts -/
theorem I_stS {σ : Sg} (h : Ig σ) {i j : Nat} {v : Int32} (hi : i = 0 ∨ i = 8 ∨ i = 9) (hv : wi v (rlo i) (rhi i)) : Ig (stS σ i j v) := by
  refine ⟨Iv.row (S := g0 σ) (i := i) h.1 (Or.inr (Or.inr (Or.inr (Or.inr ⟨hi, List.length_set ..⟩)))) (by rw [List.length_set]; exact h.1.L i (by omega)) (fun hk x q => ?_), h.2⟩
  rcases List.mem_or_eq_of_mem_set q with q | q
  · exact h.1.1 i hk x q
  · rw [q]; exact hv
theorem I_adS {σ : Sg} (h : Ig σ) {i : Nat} {v : Int32} (hi : i = 5 ∨ i = 6 ∨ i = 7 ∨ i = 12) (hv : i < 12 → wi v (rlo i) (rhi i)) (hl : (sr (g0 σ) i).length < rc i) : Ig (adS σ i v) := by
  refine ⟨Iv.row (S := g0 σ) (i := i) h.1 (hi.imp id (Or.imp id (Or.imp id Or.inl))) (by rw [List.length_append]; exact hl) (fun hk x q => ?_), h.2⟩
  rcases List.mem_append.mp q with q | q
  · exact h.1.1 i hk x q
  · rw [List.mem_singleton.mp q]; exact hv hk
theorem I_clock {σ : Sg} (h : Ig σ) (a b : Int32) : Ig (sp_clock σ a b).2 := by
  unfold sp_clock
  by_cases g : wi a 0 2 ∧ wi b (-999) 999
  · rw [if_pos g]; exact I_stS h (Or.inl rfl) g.2
  · rw [if_neg g]; exact h.er 1
theorem I_weight {σ : Sg} (h : Ig σ) (a b : Int32) : Ig (sp_weight σ a b).2 := by
  unfold sp_weight
  by_cases g : wi a 0 5 ∧ wi b 0 99
  · rw [if_pos g]; exact I_stS h (Or.inr (Or.inl rfl)) g.2
  · rw [if_neg g]; exact h.er 1
theorem I_year {σ : Sg} (h : Ig σ) (a b : Int32) : Ig (sp_year σ a b).2 := by
  unfold sp_year
  by_cases g : wi a 0 7 ∧ wi b 0 99
  · rw [if_pos g]; exact I_stS h (Or.inr (Or.inr rfl)) g.2
  · rw [if_neg g]; exact h.er 1
theorem I_bar {σ : Sg} (h : Ig σ) (a : Int32) : Ig (sp_bar σ a).2 := by
  unfold sp_bar
  by_cases g : wi a 0 2
  · rw [if_pos g]
    by_cases z : (sr (g0 σ) 1).length < 6
    · rw [if_pos z]; exact ⟨h.1.bar g z, h.2⟩
    · rw [if_neg z]; exact h.er 4
  · rw [if_neg g]; exact h.er 1
theorem I_line {σ : Sg} (h : Ig σ) (a : Int32) : Ig (sp_line σ a).2 := by
  unfold sp_line
  by_cases g : wi a 0 999
  · rw [if_pos g]
    by_cases z : (sr (g0 σ) 6).length < 6
    · rw [if_pos z]; exact I_adS h (Or.inr (Or.inl rfl)) (fun _ => g) z
    · rw [if_neg z]; exact h.er 4
  · rw [if_neg g]; exact h.er 1
theorem I_let {σ : Sg} (h : Ig σ) (a : Int32) : Ig (sp_let σ a).2 := by
  unfold sp_let
  by_cases g : wi a 0 9999
  · rw [if_pos g]
    by_cases z : (sr (g0 σ) 7).length < 10
    · rw [if_pos z]; exact I_adS h (Or.inr (Or.inr (Or.inl rfl))) (fun _ => g) z
    · rw [if_neg z]; exact h.er 4
  · rw [if_neg g]; exact h.er 1
theorem I_tell {σ : Sg} (h : Ig σ) (a : Int32) : Ig (sp_tell σ a).2 := by
  unfold sp_tell
  by_cases z : (sr (g0 σ) 12).length < 20
  · rw [if_pos z]; exact I_adS h (Or.inr (Or.inr (Or.inr rfl))) (fun w => absurd w (by decide)) z
  · rw [if_neg z]; exact h.er 4
theorem I_told {σ : Sg} (h : Ig σ) (a : Int32) : Ig (sp_told σ a).2 := by
  unfold sp_told
  by_cases g : wi a 1 5
  · rw [if_pos g]; exact h
  · rw [if_neg g]; exact h.er 1
theorem I_seed {σ : Sg} (h : Ig σ) (a : Int32) : Ig (sp_seed σ a).2 := ⟨h.1, h.2⟩
theorem I_trace {σ : Sg} (h : Ig σ) (a : Int32) : Ig (sp_trace σ a).2 := by
  unfold sp_trace
  by_cases g : wi a 0 (nI (gt σ).length - 1)
  · rw [if_pos g]; exact h
  · rw [if_neg g]; exact h.er 2
theorem I_count {σ : Sg} (h : Ig σ) (a : Int32) : Ig (sp_count σ a).2 := by
  unfold sp_count
  by_cases g : wi a 0 9
  · rw [if_pos g]; exact h
  · rw [if_neg g]; exact h.er 1
theorem I_ring {σ : Sg} (h : Ig σ) (a b c : Int32) : Ig (sp_ring σ a b c).2 := by
  unfold sp_ring
  by_cases g : isB (g0 σ) a ∧ wi b 0 9999 ∧ wi c 1 999
  · rw [if_pos g]
    by_cases z : (sr (g0 σ) 2).length < 96
    · rw [if_pos z]; exact adR_I h g.1 g.2.1 g.2.2 z
    · rw [if_neg z]; exact h.er 4
  · rw [if_neg g]; exact h.er 1
theorem I_quiet {σ : Sg} (h : Ig σ) (a b : Int32) : Ig (sp_quiet σ a b).2 := by
  unfold sp_quiet
  by_cases g : wi a 1 999 ∧ wi b 1 9999
  · rw [if_pos g]
    by_cases z : (sr (g0 σ) 10).length < 8
    · rw [if_pos z]; exact ⟨h.1.quiet g.1 g.2 z, h.2⟩
    · rw [if_neg z]; exact h.er 4
  · rw [if_neg g]; exact h.er 1
theorem I_gone {σ : Sg} (h : Ig σ) (m l n : Int32) : Ig (sp_gone σ m l n).2 := by
  unfold sp_gone
  by_cases g : wi m 1 99999 ∧ wi l 1 999 ∧ wi n 1 9
  · rw [if_pos g]
    generalize gyr m l n.toNatClampNeg 999 1 m = o
    cases o with
    | none => exact h.er 2
    | some y => exact h
  · rw [if_neg g]; exact h.er 1
theorem I_mdN {bar : Int32} : ∀ (n : Nat) (σ : Sg), Ig σ → isB (g0 σ) bar → (sr (g0 σ) 2).length + n ≤ 96 → Ig (mdN bar n σ) := by
  intro n
  induction n with
  | zero => intro σ h _ _; exact h
  | succ n ih =>
    intro σ h hb hl
    obtain ⟨g1, g2⟩ := md1_ok h hb (by omega)
    show Ig (mdN bar n (md1 σ bar))
    exact ih _ g1 g2 (by rw [md1_len]; omega)
theorem I_made {σ : Sg} (h : Ig σ) (bar n : Int32) : Ig (sp_made σ bar n).2 := by
  unfold sp_made
  by_cases g : isB (g0 σ) bar ∧ wi n 1 20
  · rw [if_pos g]
    by_cases z : (sr (g0 σ) 2).length + n.toNatClampNeg ≤ 96
    · rw [if_pos z]; exact I_mdN _ _ h g.1 z
    · rw [if_neg z]; exact h.er 4
  · rw [if_neg g]; exact h.er 1
theorem I_boN {ab : Int32} : ∀ (n : Nat) (σ : Sg), Ig σ → isP (g0 σ) ab → (sr (g0 σ) 2).length + 2 * n ≤ 96 → Ig (boN ab n σ) := by
  intro n
  induction n with
  | zero => intro σ h _ _; exact h
  | succ n ih =>
    intro σ h hb hl
    obtain ⟨g1, g2⟩ := bo1_ok h hb (by omega)
    show Ig (boN ab n (bo1 σ ab))
    exact ih _ g1 g2 (by rw [bo1_len]; omega)
theorem I_both {σ : Sg} (h : Ig σ) (ab n : Int32) : Ig (sp_both σ ab n).2 := by
  unfold sp_both
  by_cases g : isP (g0 σ) ab ∧ wi n 1 10
  · rw [if_pos g]
    by_cases z : (sr (g0 σ) 2).length + 2 * n.toNatClampNeg ≤ 96
    · rw [if_pos z]; exact I_boN _ _ h g.1 z
    · rw [if_neg z]; exact h.er 4
  · rw [if_neg g]; exact h.er 1
theorem I_bound {σ : Sg} (h : Ig σ) (a : Int32) : Ig (sp_bound σ a).2 := by
  unfold sp_bound
  by_cases g : wi a 1 999
  · rw [if_pos g]
    by_cases z : lon (g0 σ) a (sr (g0 σ) 10).length = 0
    · rw [if_pos z]; exact h.er 2
    · rw [if_neg z]; exact h
  · rw [if_neg g]; exact h.er 1
theorem I_fdN {w : Int64} : ∀ (n i : Nat) (σ : Sg), Ig σ → (sr (g0 σ) 5).length + n ≤ 50 → Ig (fdN w i n σ) := by
  intro n
  induction n with
  | zero => intro i σ h _; exact h
  | succ n ih =>
    intro i σ h hl
    show Ig (fdN w (i + 1) n (adS σ 5 (fb w i)))
    exact ih _ _ (adS5_I h (fb_in w i) (by omega)) (by rw [adS5_len]; omega)
theorem I_feed {σ : Sg} (h : Ig σ) (w : Int64) (n : Int32) : Ig (sp_feed σ w n).2 := by
  unfold sp_feed
  by_cases g : wi n 1 8
  · rw [if_pos g]
    by_cases z : (sr (g0 σ) 5).length + n.toNatClampNeg ≤ 50
    · rw [if_pos z]; exact I_fdN _ _ _ h z
    · rw [if_neg z]; exact h.er 4
  · rw [if_neg g]; exact h.er 1
theorem I_rwN {nums : List Int32} {bar : Int32} : ∀ (f c : Nat) (σ : Sg), Ig σ → isB (g0 σ) bar → Ig (rwN nums bar f c σ).2 := by
  intro f
  induction f with
  | zero => intro c σ h _; exact h
  | succ f ih =>
    intro c σ h hb
    unfold rwN
    by_cases g : 2 * c + 1 < nums.length ∧ wi (nums.getD (2 * c) 0) 0 9999 ∧ wi (nums.getD (2 * c + 1) 0) 1 999 ∧ (sr (g0 σ) 2).length < 96
    · rw [if_pos g]; exact ih _ _ (adR_I h hb g.2.1 g.2.2.1 g.2.2.2) (adR_B _ _ _ hb)
    · rw [if_neg g]; exact h
theorem I_rows {σ : Sg} (h : Ig σ) (bar s : Int32) : Ig (sp_rows σ bar s).2 := by
  unfold sp_rows
  by_cases g : isB (g0 σ) bar ∧ wi s 0 3
  · rw [if_pos g]
    by_cases z : (gs σ s.toNatClampNeg).1 = 0
    · rw [if_pos z]; exact h.er 2
    · rw [if_neg z]; exact I_rwN _ _ _ h g.1
  · rw [if_neg g]; exact h.er 1
theorem isP_ok {S : St} (hI : Iv S) {ab : Int32} (h : isP S ab) : okP (sr S 1).length ab := by
  obtain ⟨a, b, h1, h2, h3, h4, h5⟩ := isP_n hI h
  refine ⟨a, b, h1, h2, h3, ?_⟩
  have e : ab = ab - ab / 10 * 10 + ab / 10 * 10 := (Int32.sub_add_cancel _ _).symm
  have h5' : ab - ab / 10 * 10 = nI b := h5
  rw [h5', h4] at e
  rw [e, show nI a * (10 : Int32) = nI (a * 10) from (pk_mul a 10), nI_add]
  congr 1; omega
theorem I_counting {σ : Sg} (h : Ig σ) (a ab l w d : Int32) : Ig (sp_counting σ a ab l w d).2 := by
  unfold sp_counting
  by_cases g : wi a 0 7 ∧ isP (g0 σ) ab ∧ wi l 0 999 ∧ wi w 0 50 ∧ wi d 1 999
  · rw [if_pos g]
    by_cases z : (sk (g0 σ)).length < 12
    · rw [if_pos z]
      refine ⟨?_, h.2⟩
      obtain ⟨i1, i2, i3, i4, i5, i6, i7, i8⟩ := id h.1
      refine ⟨i1, i2, i3, i4, i5, i6, ?_, fun c hc => ?_⟩
      · show (sk (g0 σ) ++ [[nI (sk (g0 σ)).length, a, ab, l, w, d]]).length ≤ 12
        rw [List.length_append]; exact z
      · have hc' : c < (sk (g0 σ) ++ [[nI (sk (g0 σ)).length, a, ab, l, w, d]]).length := hc
        rw [List.length_append] at hc'
        show okC (sr (g0 σ) 1).length c ((sk (g0 σ) ++ [[nI (sk (g0 σ)).length, a, ab, l, w, d]]).getD c [])
        by_cases y : c = (sk (g0 σ)).length
        · have e : (sk (g0 σ) ++ [[nI (sk (g0 σ)).length, a, ab, l, w, d]]).getD c [] = [nI (sk (g0 σ)).length, a, ab, l, w, d] := by
            rw [y, List.getD_eq_getElem?_getD]; simp
          rw [e, y]
          exact ⟨rfl, rfl, g.1, isP_ok h.1 g.2.1, g.2.2.1, g.2.2.2.1, g.2.2.2.2⟩
        · have hc2 : c < (sk (g0 σ)).length := by
            have : c < (sk (g0 σ)).length + 1 := hc'
            omega
          have e : (sk (g0 σ) ++ [[nI (sk (g0 σ)).length, a, ab, l, w, d]]).getD c [] = (sk (g0 σ)).getD c [] := by
            rw [List.getD_eq_getElem?_getD, List.getD_eq_getElem?_getD, List.getElem?_append_left hc2]
          rw [e]
          exact i8 c hc2
    · rw [if_neg z]; exact h.er 4
  · rw [if_neg g]; exact h.er 1
