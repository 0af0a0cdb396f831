/-! the law: one round of its loop, and all of them (by mklaw.py) -/
theorem lw_end {L i : Nat} (hL : L ≤ 384) (hi : i ≤ 390) : (Int32.ofNat L - 6 < nI i) ↔ L < i + 6 := by
  have e1 : (Int32.ofNat L).toInt = (L : Int) := nI_toInt (n := L) (by omega)
  have e2 : (6 : Int32).toInt = 6 := by decide
  rw [Int32.lt_iff_toInt_lt, i_sub (by rw [e1, e2]; omega) (by rw [e1, e2]; omega), e1, e2, nI_toInt (show i < 2 ^ 31 by omega)]
  omega
theorem lw_step {N L : Nat} {xs : Nat → Int32} {K : Mm → Nat → Nat → Int32 → Option (Int32 × Mm)} {M : Mm} {σ : Sg} {i : Nat} (hN : 2000 ≤ N) (hi : i + 6 ≤ L) (hL : L ≤ 384) (hC : RelC M σ) (hT : RelT M σ) (hI : Ig σ) (hK : LwK K i) : ∃ M9, BL_law_18 N L xs K M 0 137 (nI i) = some (1, M9) := by
  have s0 : sX L xs (nI i) = some (xs i) := by
    have q := lw_x (xs := xs) (k := 0) (show i + 0 < L by omega) hL
    rw [nI_add] at q
    exact q
  have e6 : nI i + 6 = nI (i + 6) := nI_add i 6
  unfold BL_law_18
  rw [if_neg (show ¬ (Int32.ofNat L - 6 < nI i) from fun q => by have := (lw_end hL (by omega)).mp q; omega), s0, Option.bind_some]
  generalize xs i &&& 63 = v
  by_cases z0 : v = 0
  · rw [if_pos z0]; exact lw_clock hN hi hL hC hT hI hK
  rw [if_neg z0]
  by_cases z1 : v = 1
  · rw [if_pos z1]; exact lw_bar hN hi hL hC hT hI hK
  rw [if_neg z1]
  by_cases z2 : v = 2
  · rw [if_pos z2]; exact lw_ring hN hi hL hC hT hI hK
  rw [if_neg z2]
  by_cases z3 : v = 3
  · rw [if_pos z3]; exact lw_ringOf hN hi hL hC hT hI hK
  rw [if_neg z3]
  by_cases z4 : v = 4
  · rw [if_pos z4]; exact lw_onTape hN hi hL hC hT hI hK
  rw [if_neg z4]
  by_cases z5 : v = 5
  · rw [if_pos z5]; exact lw_counts hN hi hL hC hT hI hK
  rw [if_neg z5]
  by_cases z6 : v = 6
  · rw [if_pos z6]; exact lw_rows hN hi hL hC hT hI hK
  rw [if_neg z6]
  by_cases z7 : v = 7
  · rw [if_pos z7]; exact lw_feed hN hi hL hC hT hI hK
  rw [if_neg z7]
  by_cases z8 : v = 8
  · rw [if_pos z8]; exact lw_text hN hi hL hC hT hI hK
  rw [if_neg z8]
  by_cases z9 : v = 9
  · rw [if_pos z9]; exact lw_law hN hi hL hC hT hI hK
  rw [if_neg z9]
  by_cases z10 : v = 10
  · rw [if_pos z10]; exact lw_meets hN hi hL hC hT hI hK
  rw [if_neg z10]
  by_cases z11 : v = 11
  · rw [if_pos z11]; exact lw_counting hN hi hL hC hT hI hK
  rw [if_neg z11]
  by_cases z12 : v = 12
  · rw [if_pos z12]; exact lw_as hN hi hL hC hT hI hK
  rw [if_neg z12]
  by_cases z13 : v = 13
  · rw [if_pos z13]; exact lw_gives hN hi hL hC hT hI hK
  rw [if_neg z13]
  by_cases z14 : v = 14
  · rw [if_pos z14]; exact lw_chance hN hi hL hC hT hI hK
  rw [if_neg z14]
  by_cases z15 : v = 15
  · rw [if_pos z15]; exact lw_ahead hN hi hL hC hT hI hK
  rw [if_neg z15]
  by_cases z16 : v = 16
  · rw [if_pos z16]; exact lw_line hN hi hL hC hT hI hK
  rw [if_neg z16]
  by_cases z17 : v = 17
  · rw [if_pos z17]; exact lw_chosen hN hi hL hC hT hI hK
  rw [if_neg z17]
  by_cases z18 : v = 18
  · rw [if_pos z18]; exact lw_paid hN hi hL hC hT hI hK
  rw [if_neg z18]
  by_cases z19 : v = 19
  · rw [if_pos z19]; exact lw_let hN hi hL hC hT hI hK
  rw [if_neg z19]
  by_cases z20 : v = 20
  · rw [if_pos z20]; exact lw_seen hN hi hL hC hT hI hK
  rw [if_neg z20]
  by_cases z21 : v = 21
  · rw [if_pos z21]; exact lw_wrong hN hi hL hC hT hI hK
  rw [if_neg z21]
  by_cases z22 : v = 22
  · rw [if_pos z22]; exact lw_hours hN hi hL hC hT hI hK
  rw [if_neg z22]
  by_cases z23 : v = 23
  · rw [if_pos z23]; exact lw_spread hN hi hL hC hT hI hK
  rw [if_neg z23]
  by_cases z24 : v = 24
  · rw [if_pos z24]; exact lw_stars hN hi hL hC hT hI hK
  rw [if_neg z24]
  by_cases z25 : v = 25
  · rw [if_pos z25]; exact lw_tried hN hi hL hC hT hI hK
  rw [if_neg z25]
  by_cases z26 : v = 26
  · rw [if_pos z26]; exact lw_weight hN hi hL hC hT hI hK
  rw [if_neg z26]
  by_cases z27 : v = 27
  · rw [if_pos z27]; exact lw_year hN hi hL hC hT hI hK
  rw [if_neg z27]
  by_cases z28 : v = 28
  · rw [if_pos z28]; exact lw_all hN hi hL hC hT hI hK
  rw [if_neg z28]
  by_cases z29 : v = 29
  · rw [if_pos z29]; exact lw_say hN hi hL hC hT hI hK
  rw [if_neg z29]
  by_cases z30 : v = 30
  · rw [if_pos z30]; exact lw_find hN hi hL hC hT hI hK
  rw [if_neg z30]
  by_cases z31 : v = 31
  · rw [if_pos z31]; exact lw_quiet hN hi hL hC hT hI hK
  rw [if_neg z31]
  by_cases z32 : v = 32
  · rw [if_pos z32]; exact lw_bound hN hi hL hC hT hI hK
  rw [if_neg z32]
  by_cases z33 : v = 33
  · rw [if_pos z33]; exact lw_gone hN hi hL hC hT hI hK
  rw [if_neg z33]
  by_cases z34 : v = 34
  · rw [if_pos z34]; exact lw_seed hN hi hL hC hT hI hK
  rw [if_neg z34]
  by_cases z35 : v = 35
  · rw [if_pos z35]; exact lw_made hN hi hL hC hT hI hK
  rw [if_neg z35]
  by_cases z36 : v = 36
  · rw [if_pos z36]; exact lw_both hN hi hL hC hT hI hK
  rw [if_neg z36]
  by_cases z37 : v = 37
  · rw [if_pos z37]; exact lw_voice hN hi hL hC hT hI hK
  rw [if_neg z37]
  by_cases z38 : v = 38
  · rw [if_pos z38]; exact lw_trace hN hi hL hC hT hI hK
  rw [if_neg z38]
  by_cases z39 : v = 39
  · rw [if_pos z39]; exact lw_sheet hN hi hL hC hT hI hK
  rw [if_neg z39]
  by_cases z40 : v = 40
  · rw [if_pos z40]; exact lw_put hN hi hL hC hT hI hK
  rw [if_neg z40]
  by_cases z41 : v = 41
  · rw [if_pos z41]; exact lw_move hN hi hL hC hT hI hK
  rw [if_neg z41]
  by_cases z42 : v = 42
  · rw [if_pos z42]; exact lw_image hN hi hL hC hT hI hK
  rw [if_neg z42]
  by_cases z43 : v = 43
  · rw [if_pos z43]; exact lw_restore hN hi hL hC hT hI hK
  rw [if_neg z43]
  by_cases z44 : v = 44
  · rw [if_pos z44]; exact lw_tell hN hi hL hC hT hI hK
  rw [if_neg z44]
  by_cases z45 : v = 45
  · rw [if_pos z45]; exact lw_check hN hi hL hC hT hI hK
  rw [if_neg z45]
  by_cases z46 : v = 46
  · rw [if_pos z46]; exact lw_count hN hi hL hC hT hI hK
  rw [if_neg z46]
  by_cases z47 : v = 47
  · rw [if_pos z47]; exact lw_told hN hi hL hC hT hI hK
  rw [if_neg z47]
  rw [e6]; exact hK M σ hC hT hI
theorem lw_loop {N L : Nat} {xs : Nat → Int32} (hN : 2000 ≤ N) (hL : L ≤ 384) : ∀ (n i : Nat) (M : Mm) (σ : Sg), L < i + 6 * (n + 1) → i ≤ 390 → RelC M σ → RelT M σ → Ig σ → ∃ M9, LL_law_18 N L xs (n + 1) M 0 137 (nI i) = some (1, M9) := by
  intro n
  induction n with
  | zero =>
    intro i M σ h1 h2 hC hT hI
    show ∃ M9, BL_law_18 N L xs (LL_law_18 N L xs 0) M 0 137 (nI i) = some (1, M9)
    unfold BL_law_18
    rw [if_pos ((lw_end hL h2).mpr (by omega))]
    exact ⟨M, rfl⟩
  | succ n ih =>
    intro i M σ h1 h2 hC hT hI
    show ∃ M9, BL_law_18 N L xs (LL_law_18 N L xs (n + 1)) M 0 137 (nI i) = some (1, M9)
    by_cases z : L < i + 6
    · unfold BL_law_18
      rw [if_pos ((lw_end hL h2).mpr z)]
      exact ⟨M, rfl⟩
    · exact lw_step hN (by omega) hL hC hT hI (fun M' σ' c t j => ih (i + 6) M' σ' (by omega) (by omega) c t j)
