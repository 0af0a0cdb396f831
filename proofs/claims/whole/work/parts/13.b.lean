/-! the law: one call, a case each (by mklaw.py) -/
theorem lw_pair {M : Mm} {σ : Sg} {a : An} {rC : Option (Int32 × Mm)} {fT K : Mm → Option (Int32 × Mm)} (hT : RelT M σ) (c : DoC M rC a) (t : ∀ M', RelT M' σ → DoT M' (fT M') a) (hK : ∀ M', RelC M' a.2 → RelT M' a.2 → ∃ M9, K M' = some (1, M9)) : ∃ M9, (bd2 rC fun v M5 => bd2 (fT M5) fun w M6 => if v = w then K M6 else some ((0 : Int32), M6)) = some (1, M9) := by
  obtain ⟨M1, c1, c2, c3⟩ := c
  obtain ⟨M2, t1, t2, t3⟩ := t M1 (hT.mv c3)
  rw [c1, bd2_s, t1, bd2_s, if_pos rfl]
  exact hK M2 (c2.of t3) t2
theorem lw_pairL {M : Mm} {σ : Sg} {a : AnL} {rC : Option (Int64 × Mm)} {fT : Mm → Option (Int64 × Mm)} {K : Mm → Option (Int32 × Mm)} (hT : RelT M σ) (c : DoCL M rC a) (t : ∀ M', RelT M' σ → DoTL M' (fT M') a) (hK : ∀ M', RelC M' a.2 → RelT M' a.2 → ∃ M9, K M' = some (1, M9)) : ∃ M9, (bd2 rC fun v M5 => bd2 (fT M5) fun w M6 => if lg_cmp v w = 0 then K M6 else some ((0 : Int32), M6)) = some (1, M9) := by
  obtain ⟨M1, c1, c2, c3⟩ := c
  obtain ⟨M2, t1, t2, t3⟩ := t M1 (hT.mv c3)
  rw [c1, bd2_s, t1, bd2_s, if_pos ((lg_cmp_eq _ _).mpr rfl)]
  exact hK M2 (c2.of t3) t2
theorem lw_x {L i k : Nat} {xs : Nat → Int32} (hi : i + k < L) (hL : L ≤ 384) : sX L xs (nI i + nI k) = some (xs (i + k)) := by
  unfold sX
  rw [nI_add, nI_clamp (show i + k < 2 ^ 31 by omega), if_pos]
  rintro (q | q)
  · exact nI_pos (show i + k < 2 ^ 31 by omega) q
  · omega
section LS
variable {N L : Nat} {xs : Nat → Int32} {K : Mm → Nat → Nat → Int32 → Option (Int32 × Mm)} {M : Mm} {σ : Sg} {i : Nat}
abbrev LwK (K : Mm → Nat → Nat → Int32 → Option (Int32 × Mm)) (i : Nat) : Prop := ∀ M' σ', RelC M' σ' → RelT M' σ' → Ig σ' → ∃ M9, K M' 0 137 (nI (i + 6)) = some (1, M9)
theorem lw_clock (hN : 2000 ≤ N) (hi : i + 6 ≤ L) (hL : L ≤ 384) (hC : RelC M σ) (hT : RelT M σ) (hI : Ig σ) (hK : LwK K i) : ∃ M9, jL_law_240 N L xs K M 0 137 (nI i) = some (1, M9) := by
  have s1 : sX L xs (nI i + 1) = some (xs (i + 1)) := lw_x (k := 1) (by omega) hL
  have s2 : sX L xs (nI i + 2) = some (xs (i + 2)) := lw_x (k := 2) (by omega) hL
  have e6 : nI i + 6 = nI (i + 6) := nI_add i 6
  unfold jL_law_240
  simp only [s1, s2, e6, Option.bind_some]
  exact lw_pair (K := fun M' => K M' 0 137 (nI (i + 6))) hT (C_clock hC hI _ _) (fun M' h => T_clock h hI _ _) (fun M' c t => hK M' _ c t (I_clock hI _ _))
theorem lw_bar (hN : 2000 ≤ N) (hi : i + 6 ≤ L) (hL : L ≤ 384) (hC : RelC M σ) (hT : RelT M σ) (hI : Ig σ) (hK : LwK K i) : ∃ M9, jL_law_273 N L xs K M 0 137 (nI i) = some (1, M9) := by
  have s1 : sX L xs (nI i + 1) = some (xs (i + 1)) := lw_x (k := 1) (by omega) hL
  have e6 : nI i + 6 = nI (i + 6) := nI_add i 6
  unfold jL_law_273
  simp only [s1, e6, Option.bind_some]
  exact lw_pair (K := fun M' => K M' 0 137 (nI (i + 6))) hT (C_bar hC hI _) (fun M' h => T_bar h hI _) (fun M' c t => hK M' _ c t (I_bar hI _))
theorem lw_ring (hN : 2000 ≤ N) (hi : i + 6 ≤ L) (hL : L ≤ 384) (hC : RelC M σ) (hT : RelT M σ) (hI : Ig σ) (hK : LwK K i) : ∃ M9, jL_law_296 N L xs K M 0 137 (nI i) = some (1, M9) := by
  have s1 : sX L xs (nI i + 1) = some (xs (i + 1)) := lw_x (k := 1) (by omega) hL
  have s2 : sX L xs (nI i + 2) = some (xs (i + 2)) := lw_x (k := 2) (by omega) hL
  have s3 : sX L xs (nI i + 3) = some (xs (i + 3)) := lw_x (k := 3) (by omega) hL
  have e6 : nI i + 6 = nI (i + 6) := nI_add i 6
  unfold jL_law_296
  simp only [s1, s2, s3, e6, Option.bind_some]
  exact lw_pair (K := fun M' => K M' 0 137 (nI (i + 6))) hT (C_ring hC hI _ _ _) (fun M' h => T_ring h hI _ _ _) (fun M' c t => hK M' _ c t (I_ring hI _ _ _))
theorem lw_ringOf (hN : 2000 ≤ N) (hi : i + 6 ≤ L) (hL : L ≤ 384) (hC : RelC M σ) (hT : RelT M σ) (hI : Ig σ) (hK : LwK K i) : ∃ M9, jL_law_339 N L xs K M 0 137 (nI i) = some (1, M9) := by
  have s1 : sX L xs (nI i + 1) = some (xs (i + 1)) := lw_x (k := 1) (by omega) hL
  have s2 : sX L xs (nI i + 2) = some (xs (i + 2)) := lw_x (k := 2) (by omega) hL
  have e6 : nI i + 6 = nI (i + 6) := nI_add i 6
  unfold jL_law_339
  simp only [s1, s2, e6, Option.bind_some]
  exact lw_pair (K := fun M' => K M' 0 137 (nI (i + 6))) hT (C_ringOf hC hI hN _ _) (fun M' h => T_ringOf h hI hN _ _) (fun M' c t => hK M' _ c t (I_ringOf hI _ _))
theorem lw_onTape (hN : 2000 ≤ N) (hi : i + 6 ≤ L) (hL : L ≤ 384) (hC : RelC M σ) (hT : RelT M σ) (hI : Ig σ) (hK : LwK K i) : ∃ M9, jL_law_372 N L xs K M 0 137 (nI i) = some (1, M9) := by
  have s1 : sX L xs (nI i + 1) = some (xs (i + 1)) := lw_x (k := 1) (by omega) hL
  have s2 : sX L xs (nI i + 2) = some (xs (i + 2)) := lw_x (k := 2) (by omega) hL
  have e6 : nI i + 6 = nI (i + 6) := nI_add i 6
  unfold jL_law_372
  simp only [s1, s2, e6, Option.bind_some]
  exact lw_pair (K := fun M' => K M' 0 137 (nI (i + 6))) hT (C_onTape hC hI hN _ _) (fun M' h => T_onTape h hI hN _ _) (fun M' c t => hK M' _ c t (I_onTape hI _ _))
theorem lw_counts (hN : 2000 ≤ N) (hi : i + 6 ≤ L) (hL : L ≤ 384) (hC : RelC M σ) (hT : RelT M σ) (hI : Ig σ) (hK : LwK K i) : ∃ M9, jL_law_405 N L xs K M 0 137 (nI i) = some (1, M9) := by
  have s1 : sX L xs (nI i + 1) = some (xs (i + 1)) := lw_x (k := 1) (by omega) hL
  have s2 : sX L xs (nI i + 2) = some (xs (i + 2)) := lw_x (k := 2) (by omega) hL
  have e6 : nI i + 6 = nI (i + 6) := nI_add i 6
  unfold jL_law_405
  simp only [s1, s2, e6, Option.bind_some]
  exact lw_pair (K := fun M' => K M' 0 137 (nI (i + 6))) hT (C_counts hC hI hN _ _) (fun M' h => T_counts h hI hN _ _) (fun M' c t => hK M' _ c t (I_counts hI _ _))
theorem lw_rows (hN : 2000 ≤ N) (hi : i + 6 ≤ L) (hL : L ≤ 384) (hC : RelC M σ) (hT : RelT M σ) (hI : Ig σ) (hK : LwK K i) : ∃ M9, jL_law_438 N L xs K M 0 137 (nI i) = some (1, M9) := by
  have s1 : sX L xs (nI i + 1) = some (xs (i + 1)) := lw_x (k := 1) (by omega) hL
  have s2 : sX L xs (nI i + 2) = some (xs (i + 2)) := lw_x (k := 2) (by omega) hL
  have e6 : nI i + 6 = nI (i + 6) := nI_add i 6
  unfold jL_law_438
  simp only [s1, s2, e6, Option.bind_some]
  exact lw_pair (K := fun M' => K M' 0 137 (nI (i + 6))) hT (C_rows hC hI hN _ _) (fun M' h => T_rows h hI hN _ _) (fun M' c t => hK M' _ c t (I_rows hI _ _))
theorem lw_feed (hN : 2000 ≤ N) (hi : i + 6 ≤ L) (hL : L ≤ 384) (hC : RelC M σ) (hT : RelT M σ) (hI : Ig σ) (hK : LwK K i) : ∃ M9, jL_law_471 N L xs K M 0 137 (nI i) = some (1, M9) := by
  have s1 : sX L xs (nI i + 1) = some (xs (i + 1)) := lw_x (k := 1) (by omega) hL
  have s2 : sX L xs (nI i + 2) = some (xs (i + 2)) := lw_x (k := 2) (by omega) hL
  have s3 : sX L xs (nI i + 3) = some (xs (i + 3)) := lw_x (k := 3) (by omega) hL
  have e6 : nI i + 6 = nI (i + 6) := nI_add i 6
  unfold jL_law_471
  simp only [s1, s2, s3, e6, Option.bind_some]
  exact lw_pair (K := fun M' => K M' 0 137 (nI (i + 6))) hT (C_feed hC hI hN _ _) (fun M' h => T_feed h hI hN _ _) (fun M' c t => hK M' _ c t (I_feed hI _ _))
theorem lw_text (hN : 2000 ≤ N) (hi : i + 6 ≤ L) (hL : L ≤ 384) (hC : RelC M σ) (hT : RelT M σ) (hI : Ig σ) (hK : LwK K i) : ∃ M9, jL_law_534 N L xs K M 0 137 (nI i) = some (1, M9) := by
  have s1 : sX L xs (nI i + 1) = some (xs (i + 1)) := lw_x (k := 1) (by omega) hL
  have e6 : nI i + 6 = nI (i + 6) := nI_add i 6
  unfold jL_law_534
  simp only [s1, e6, Option.bind_some]
  exact lw_pair (K := fun M' => K M' 0 137 (nI (i + 6))) hT (C_text hC hI hN _) (fun M' h => T_text h hI hN _) (fun M' c t => hK M' _ c t (I_text hI _))
theorem lw_law (hN : 2000 ≤ N) (hi : i + 6 ≤ L) (hL : L ≤ 384) (hC : RelC M σ) (hT : RelT M σ) (hI : Ig σ) (hK : LwK K i) : ∃ M9, jL_law_557 N L xs K M 0 137 (nI i) = some (1, M9) := by
  have s1 : sX L xs (nI i + 1) = some (xs (i + 1)) := lw_x (k := 1) (by omega) hL
  have s2 : sX L xs (nI i + 2) = some (xs (i + 2)) := lw_x (k := 2) (by omega) hL
  have s3 : sX L xs (nI i + 3) = some (xs (i + 3)) := lw_x (k := 3) (by omega) hL
  have e6 : nI i + 6 = nI (i + 6) := nI_add i 6
  unfold jL_law_557
  simp only [s1, s2, s3, e6, Option.bind_some]
  exact lw_pair (K := fun M' => K M' 0 137 (nI (i + 6))) hT (C_law hC hN _ _ _) (fun M' h => T_law h hI hN _ _ _) (fun M' c t => hK M' _ c t (I_law hI _ _ _))
theorem lw_meets (hN : 2000 ≤ N) (hi : i + 6 ≤ L) (hL : L ≤ 384) (hC : RelC M σ) (hT : RelT M σ) (hI : Ig σ) (hK : LwK K i) : ∃ M9, jL_law_600 N L xs K M 0 137 (nI i) = some (1, M9) := by
  have s1 : sX L xs (nI i + 1) = some (xs (i + 1)) := lw_x (k := 1) (by omega) hL
  have s2 : sX L xs (nI i + 2) = some (xs (i + 2)) := lw_x (k := 2) (by omega) hL
  have s3 : sX L xs (nI i + 3) = some (xs (i + 3)) := lw_x (k := 3) (by omega) hL
  have s4 : sX L xs (nI i + 4) = some (xs (i + 4)) := lw_x (k := 4) (by omega) hL
  have e6 : nI i + 6 = nI (i + 6) := nI_add i 6
  unfold jL_law_600
  simp only [s1, s2, s3, s4, e6, Option.bind_some]
  exact lw_pair (K := fun M' => K M' 0 137 (nI (i + 6))) hT (C_meets hC hI hN _ _ _ _) (fun M' h => T_meets h hI hN _ _ _ _) (fun M' c t => hK M' _ c t (I_meets hI _ _ _ _))
theorem lw_counting (hN : 2000 ≤ N) (hi : i + 6 ≤ L) (hL : L ≤ 384) (hC : RelC M σ) (hT : RelT M σ) (hI : Ig σ) (hK : LwK K i) : ∃ M9, jL_law_653 N L xs K M 0 137 (nI i) = some (1, M9) := by
  have s1 : sX L xs (nI i + 1) = some (xs (i + 1)) := lw_x (k := 1) (by omega) hL
  have s2 : sX L xs (nI i + 2) = some (xs (i + 2)) := lw_x (k := 2) (by omega) hL
  have s3 : sX L xs (nI i + 3) = some (xs (i + 3)) := lw_x (k := 3) (by omega) hL
  have s4 : sX L xs (nI i + 4) = some (xs (i + 4)) := lw_x (k := 4) (by omega) hL
  have s5 : sX L xs (nI i + 5) = some (xs (i + 5)) := lw_x (k := 5) (by omega) hL
  have e6 : nI i + 6 = nI (i + 6) := nI_add i 6
  unfold jL_law_653
  simp only [s1, s2, s3, s4, s5, e6, Option.bind_some]
  exact lw_pair (K := fun M' => K M' 0 137 (nI (i + 6))) hT (C_counting hC hI _ _ _ _ _) (fun M' h => T_counting h hI _ _ _ _ _) (fun M' c t => hK M' _ c t (I_counting hI _ _ _ _ _))
theorem lw_as (hN : 2000 ≤ N) (hi : i + 6 ≤ L) (hL : L ≤ 384) (hC : RelC M σ) (hT : RelT M σ) (hI : Ig σ) (hK : LwK K i) : ∃ M9, jL_law_716 N L xs K M 0 137 (nI i) = some (1, M9) := by
  have s1 : sX L xs (nI i + 1) = some (xs (i + 1)) := lw_x (k := 1) (by omega) hL
  have s2 : sX L xs (nI i + 2) = some (xs (i + 2)) := lw_x (k := 2) (by omega) hL
  have e6 : nI i + 6 = nI (i + 6) := nI_add i 6
  unfold jL_law_716
  simp only [s1, s2, e6, Option.bind_some]
  exact lw_pair (K := fun M' => K M' 0 137 (nI (i + 6))) hT (C_as hC hI hN _ _) (fun M' h => T_as h hI _ _) (fun M' c t => hK M' _ c t (I_as hI _ _))
theorem lw_gives (hN : 2000 ≤ N) (hi : i + 6 ≤ L) (hL : L ≤ 384) (hC : RelC M σ) (hT : RelT M σ) (hI : Ig σ) (hK : LwK K i) : ∃ M9, jL_law_749 N L xs K M 0 137 (nI i) = some (1, M9) := by
  have s1 : sX L xs (nI i + 1) = some (xs (i + 1)) := lw_x (k := 1) (by omega) hL
  have e6 : nI i + 6 = nI (i + 6) := nI_add i 6
  unfold jL_law_749
  simp only [s1, e6, Option.bind_some]
  exact lw_pair (K := fun M' => K M' 0 137 (nI (i + 6))) hT (C_gives hC hI hN _) (fun M' h => T_gives h hI hN _) (fun M' c t => hK M' _ c t (I_gives hI _))
theorem lw_chance (hN : 2000 ≤ N) (hi : i + 6 ≤ L) (hL : L ≤ 384) (hC : RelC M σ) (hT : RelT M σ) (hI : Ig σ) (hK : LwK K i) : ∃ M9, jL_law_772 N L xs K M 0 137 (nI i) = some (1, M9) := by
  have s1 : sX L xs (nI i + 1) = some (xs (i + 1)) := lw_x (k := 1) (by omega) hL
  have s2 : sX L xs (nI i + 2) = some (xs (i + 2)) := lw_x (k := 2) (by omega) hL
  have s3 : sX L xs (nI i + 3) = some (xs (i + 3)) := lw_x (k := 3) (by omega) hL
  have e6 : nI i + 6 = nI (i + 6) := nI_add i 6
  unfold jL_law_772
  simp only [s1, s2, s3, e6, Option.bind_some]
  exact lw_pair (K := fun M' => K M' 0 137 (nI (i + 6))) hT (C_chance hC hI hN _ _ _) (fun M' h => T_chance h hI hN _ _ _) (fun M' c t => hK M' _ c t (I_chance hI _ _ _))
theorem lw_ahead (hN : 2000 ≤ N) (hi : i + 6 ≤ L) (hL : L ≤ 384) (hC : RelC M σ) (hT : RelT M σ) (hI : Ig σ) (hK : LwK K i) : ∃ M9, jL_law_815 N L xs K M 0 137 (nI i) = some (1, M9) := by
  have s1 : sX L xs (nI i + 1) = some (xs (i + 1)) := lw_x (k := 1) (by omega) hL
  have s2 : sX L xs (nI i + 2) = some (xs (i + 2)) := lw_x (k := 2) (by omega) hL
  have s3 : sX L xs (nI i + 3) = some (xs (i + 3)) := lw_x (k := 3) (by omega) hL
  have e6 : nI i + 6 = nI (i + 6) := nI_add i 6
  unfold jL_law_815
  simp only [s1, s2, s3, e6, Option.bind_some]
  exact lw_pair (K := fun M' => K M' 0 137 (nI (i + 6))) hT (C_ahead hC hI hN _ _ _) (fun M' h => T_ahead h hI hN _ _ _) (fun M' c t => hK M' _ c t (I_ahead hI _ _ _))
theorem lw_line (hN : 2000 ≤ N) (hi : i + 6 ≤ L) (hL : L ≤ 384) (hC : RelC M σ) (hT : RelT M σ) (hI : Ig σ) (hK : LwK K i) : ∃ M9, jL_law_858 N L xs K M 0 137 (nI i) = some (1, M9) := by
  have s1 : sX L xs (nI i + 1) = some (xs (i + 1)) := lw_x (k := 1) (by omega) hL
  have e6 : nI i + 6 = nI (i + 6) := nI_add i 6
  unfold jL_law_858
  simp only [s1, e6, Option.bind_some]
  exact lw_pair (K := fun M' => K M' 0 137 (nI (i + 6))) hT (C_line hC hI _) (fun M' h => T_line h hI _) (fun M' c t => hK M' _ c t (I_line hI _))
theorem lw_chosen (hN : 2000 ≤ N) (hi : i + 6 ≤ L) (hL : L ≤ 384) (hC : RelC M σ) (hT : RelT M σ) (hI : Ig σ) (hK : LwK K i) : ∃ M9, jL_law_881 N L xs K M 0 137 (nI i) = some (1, M9) := by
  have s1 : sX L xs (nI i + 1) = some (xs (i + 1)) := lw_x (k := 1) (by omega) hL
  have s2 : sX L xs (nI i + 2) = some (xs (i + 2)) := lw_x (k := 2) (by omega) hL
  have e6 : nI i + 6 = nI (i + 6) := nI_add i 6
  unfold jL_law_881
  simp only [s1, s2, e6, Option.bind_some]
  exact lw_pair (K := fun M' => K M' 0 137 (nI (i + 6))) hT (C_chosen hC hI hN _ _) (fun M' h => T_chosen h hI hN _ _) (fun M' c t => hK M' _ c t (I_chosen hI _ _))
theorem lw_paid (hN : 2000 ≤ N) (hi : i + 6 ≤ L) (hL : L ≤ 384) (hC : RelC M σ) (hT : RelT M σ) (hI : Ig σ) (hK : LwK K i) : ∃ M9, jL_law_914 N L xs K M 0 137 (nI i) = some (1, M9) := by
  have s1 : sX L xs (nI i + 1) = some (xs (i + 1)) := lw_x (k := 1) (by omega) hL
  have s2 : sX L xs (nI i + 2) = some (xs (i + 2)) := lw_x (k := 2) (by omega) hL
  have s3 : sX L xs (nI i + 3) = some (xs (i + 3)) := lw_x (k := 3) (by omega) hL
  have e6 : nI i + 6 = nI (i + 6) := nI_add i 6
  unfold jL_law_914
  simp only [s1, s2, s3, e6, Option.bind_some]
  exact lw_pair (K := fun M' => K M' 0 137 (nI (i + 6))) hT (C_paid hC hI hN _ _ _) (fun M' h => T_paid h hI hN _ _ _) (fun M' c t => hK M' _ c t (I_paid hI _ _ _))
theorem lw_let (hN : 2000 ≤ N) (hi : i + 6 ≤ L) (hL : L ≤ 384) (hC : RelC M σ) (hT : RelT M σ) (hI : Ig σ) (hK : LwK K i) : ∃ M9, jL_law_957 N L xs K M 0 137 (nI i) = some (1, M9) := by
  have s1 : sX L xs (nI i + 1) = some (xs (i + 1)) := lw_x (k := 1) (by omega) hL
  have e6 : nI i + 6 = nI (i + 6) := nI_add i 6
  unfold jL_law_957
  simp only [s1, e6, Option.bind_some]
  exact lw_pair (K := fun M' => K M' 0 137 (nI (i + 6))) hT (C_let hC hI _) (fun M' h => T_let h hI _) (fun M' c t => hK M' _ c t (I_let hI _))
theorem lw_seen (hN : 2000 ≤ N) (hi : i + 6 ≤ L) (hL : L ≤ 384) (hC : RelC M σ) (hT : RelT M σ) (hI : Ig σ) (hK : LwK K i) : ∃ M9, jL_law_980 N L xs K M 0 137 (nI i) = some (1, M9) := by
  have s1 : sX L xs (nI i + 1) = some (xs (i + 1)) := lw_x (k := 1) (by omega) hL
  have s2 : sX L xs (nI i + 2) = some (xs (i + 2)) := lw_x (k := 2) (by omega) hL
  have s3 : sX L xs (nI i + 3) = some (xs (i + 3)) := lw_x (k := 3) (by omega) hL
  have e6 : nI i + 6 = nI (i + 6) := nI_add i 6
  unfold jL_law_980
  simp only [s1, s2, s3, e6, Option.bind_some]
  exact lw_pair (K := fun M' => K M' 0 137 (nI (i + 6))) hT (C_seen hC hI hN _ _ _) (fun M' h => T_seen h hI hN _ _ _) (fun M' c t => hK M' _ c t (I_seen hI _ _ _))
theorem lw_wrong (hN : 2000 ≤ N) (hi : i + 6 ≤ L) (hL : L ≤ 384) (hC : RelC M σ) (hT : RelT M σ) (hI : Ig σ) (hK : LwK K i) : ∃ M9, jL_law_1023 N L xs K M 0 137 (nI i) = some (1, M9) := by
  have s1 : sX L xs (nI i + 1) = some (xs (i + 1)) := lw_x (k := 1) (by omega) hL
  have s2 : sX L xs (nI i + 2) = some (xs (i + 2)) := lw_x (k := 2) (by omega) hL
  have s3 : sX L xs (nI i + 3) = some (xs (i + 3)) := lw_x (k := 3) (by omega) hL
  have e6 : nI i + 6 = nI (i + 6) := nI_add i 6
  unfold jL_law_1023
  simp only [s1, s2, s3, e6, Option.bind_some]
  exact lw_pair (K := fun M' => K M' 0 137 (nI (i + 6))) hT (C_wrong hC hI hN _ _ _) (fun M' h => T_wrong h hI hN _ _ _) (fun M' c t => hK M' _ c t (I_wrong hI _ _ _))
theorem lw_hours (hN : 2000 ≤ N) (hi : i + 6 ≤ L) (hL : L ≤ 384) (hC : RelC M σ) (hT : RelT M σ) (hI : Ig σ) (hK : LwK K i) : ∃ M9, jL_law_1066 N L xs K M 0 137 (nI i) = some (1, M9) := by
  have s1 : sX L xs (nI i + 1) = some (xs (i + 1)) := lw_x (k := 1) (by omega) hL
  have s2 : sX L xs (nI i + 2) = some (xs (i + 2)) := lw_x (k := 2) (by omega) hL
  have s3 : sX L xs (nI i + 3) = some (xs (i + 3)) := lw_x (k := 3) (by omega) hL
  have s4 : sX L xs (nI i + 4) = some (xs (i + 4)) := lw_x (k := 4) (by omega) hL
  have e6 : nI i + 6 = nI (i + 6) := nI_add i 6
  unfold jL_law_1066
  simp only [s1, s2, s3, s4, e6, Option.bind_some]
  exact lw_pair (K := fun M' => K M' 0 137 (nI (i + 6))) hT (C_hours hC hI hN _ _ _ _) (fun M' h => T_hours h hI hN _ _ _ _) (fun M' c t => hK M' _ c t (I_hours hI _ _ _ _))
theorem lw_spread (hN : 2000 ≤ N) (hi : i + 6 ≤ L) (hL : L ≤ 384) (hC : RelC M σ) (hT : RelT M σ) (hI : Ig σ) (hK : LwK K i) : ∃ M9, jL_law_1119 N L xs K M 0 137 (nI i) = some (1, M9) := by
  have s1 : sX L xs (nI i + 1) = some (xs (i + 1)) := lw_x (k := 1) (by omega) hL
  have s2 : sX L xs (nI i + 2) = some (xs (i + 2)) := lw_x (k := 2) (by omega) hL
  have s3 : sX L xs (nI i + 3) = some (xs (i + 3)) := lw_x (k := 3) (by omega) hL
  have e6 : nI i + 6 = nI (i + 6) := nI_add i 6
  unfold jL_law_1119
  simp only [s1, s2, s3, e6, Option.bind_some]
  exact lw_pair (K := fun M' => K M' 0 137 (nI (i + 6))) hT (C_spread hC hI hN _ _ _) (fun M' h => T_spread h hI hN _ _ _) (fun M' c t => hK M' _ c t (I_spread hI _ _ _))
theorem lw_stars (hN : 2000 ≤ N) (hi : i + 6 ≤ L) (hL : L ≤ 384) (hC : RelC M σ) (hT : RelT M σ) (hI : Ig σ) (hK : LwK K i) : ∃ M9, jL_law_1162 N L xs K M 0 137 (nI i) = some (1, M9) := by
  have s1 : sX L xs (nI i + 1) = some (xs (i + 1)) := lw_x (k := 1) (by omega) hL
  have s2 : sX L xs (nI i + 2) = some (xs (i + 2)) := lw_x (k := 2) (by omega) hL
  have s3 : sX L xs (nI i + 3) = some (xs (i + 3)) := lw_x (k := 3) (by omega) hL
  have s4 : sX L xs (nI i + 4) = some (xs (i + 4)) := lw_x (k := 4) (by omega) hL
  have e6 : nI i + 6 = nI (i + 6) := nI_add i 6
  unfold jL_law_1162
  simp only [s1, s2, s3, s4, e6, Option.bind_some]
  exact lw_pair (K := fun M' => K M' 0 137 (nI (i + 6))) hT (C_stars hC hI hN _ _ _ _) (fun M' h => T_stars h hI hN _ _ _ _) (fun M' c t => hK M' _ c t (I_stars hI _ _ _ _))
theorem lw_tried (hN : 2000 ≤ N) (hi : i + 6 ≤ L) (hL : L ≤ 384) (hC : RelC M σ) (hT : RelT M σ) (hI : Ig σ) (hK : LwK K i) : ∃ M9, jL_law_1215 N L xs K M 0 137 (nI i) = some (1, M9) := by
  have s1 : sX L xs (nI i + 1) = some (xs (i + 1)) := lw_x (k := 1) (by omega) hL
  have s2 : sX L xs (nI i + 2) = some (xs (i + 2)) := lw_x (k := 2) (by omega) hL
  have s3 : sX L xs (nI i + 3) = some (xs (i + 3)) := lw_x (k := 3) (by omega) hL
  have s4 : sX L xs (nI i + 4) = some (xs (i + 4)) := lw_x (k := 4) (by omega) hL
  have s5 : sX L xs (nI i + 5) = some (xs (i + 5)) := lw_x (k := 5) (by omega) hL
  have e6 : nI i + 6 = nI (i + 6) := nI_add i 6
  unfold jL_law_1215
  simp only [s1, s2, s3, s4, s5, e6, Option.bind_some]
  exact lw_pair (K := fun M' => K M' 0 137 (nI (i + 6))) hT (C_tried hC hI hN _ _ _ _ _) (fun M' h => T_tried h hI hN _ _ _ _ _) (fun M' c t => hK M' _ c t (I_tried hI _ _ _ _ _))
theorem lw_weight (hN : 2000 ≤ N) (hi : i + 6 ≤ L) (hL : L ≤ 384) (hC : RelC M σ) (hT : RelT M σ) (hI : Ig σ) (hK : LwK K i) : ∃ M9, jL_law_1278 N L xs K M 0 137 (nI i) = some (1, M9) := by
  have s1 : sX L xs (nI i + 1) = some (xs (i + 1)) := lw_x (k := 1) (by omega) hL
  have s2 : sX L xs (nI i + 2) = some (xs (i + 2)) := lw_x (k := 2) (by omega) hL
  have e6 : nI i + 6 = nI (i + 6) := nI_add i 6
  unfold jL_law_1278
  simp only [s1, s2, e6, Option.bind_some]
  exact lw_pair (K := fun M' => K M' 0 137 (nI (i + 6))) hT (C_weight hC hI _ _) (fun M' h => T_weight h hI _ _) (fun M' c t => hK M' _ c t (I_weight hI _ _))
theorem lw_year (hN : 2000 ≤ N) (hi : i + 6 ≤ L) (hL : L ≤ 384) (hC : RelC M σ) (hT : RelT M σ) (hI : Ig σ) (hK : LwK K i) : ∃ M9, jL_law_1311 N L xs K M 0 137 (nI i) = some (1, M9) := by
  have s1 : sX L xs (nI i + 1) = some (xs (i + 1)) := lw_x (k := 1) (by omega) hL
  have s2 : sX L xs (nI i + 2) = some (xs (i + 2)) := lw_x (k := 2) (by omega) hL
  have e6 : nI i + 6 = nI (i + 6) := nI_add i 6
  unfold jL_law_1311
  simp only [s1, s2, e6, Option.bind_some]
  exact lw_pair (K := fun M' => K M' 0 137 (nI (i + 6))) hT (C_year hC hI _ _) (fun M' h => T_year h hI _ _) (fun M' c t => hK M' _ c t (I_year hI _ _))
theorem lw_all (hN : 2000 ≤ N) (hi : i + 6 ≤ L) (hL : L ≤ 384) (hC : RelC M σ) (hT : RelT M σ) (hI : Ig σ) (hK : LwK K i) : ∃ M9, jL_law_1344 N L xs K M 0 137 (nI i) = some (1, M9) := by
  have s1 : sX L xs (nI i + 1) = some (xs (i + 1)) := lw_x (k := 1) (by omega) hL
  have s2 : sX L xs (nI i + 2) = some (xs (i + 2)) := lw_x (k := 2) (by omega) hL
  have s3 : sX L xs (nI i + 3) = some (xs (i + 3)) := lw_x (k := 3) (by omega) hL
  have e6 : nI i + 6 = nI (i + 6) := nI_add i 6
  unfold jL_law_1344
  simp only [s1, s2, s3, e6, Option.bind_some]
  exact lw_pairL (K := fun M' => K M' 0 137 (nI (i + 6))) hT (C_all hC hI hN _ _ _) (fun M' h => T_all h hI hN _ _ _) (fun M' c t => hK M' _ c t (I_all hI _ _ _))
theorem lw_say (hN : 2000 ≤ N) (hi : i + 6 ≤ L) (hL : L ≤ 384) (hC : RelC M σ) (hT : RelT M σ) (hI : Ig σ) (hK : LwK K i) : ∃ M9, jL_law_1388 N L xs K M 0 137 (nI i) = some (1, M9) := by
  have s1 : sX L xs (nI i + 1) = some (xs (i + 1)) := lw_x (k := 1) (by omega) hL
  have e6 : nI i + 6 = nI (i + 6) := nI_add i 6
  unfold jL_law_1388
  simp only [s1, e6, Option.bind_some]
  exact lw_pair (K := fun M' => K M' 0 137 (nI (i + 6))) hT (C_say hC hI hN _) (fun M' h => T_say h hI hN _) (fun M' c t => hK M' _ c t (I_say hI _))
theorem lw_find (hN : 2000 ≤ N) (hi : i + 6 ≤ L) (hL : L ≤ 384) (hC : RelC M σ) (hT : RelT M σ) (hI : Ig σ) (hK : LwK K i) : ∃ M9, jL_law_1411 N L xs K M 0 137 (nI i) = some (1, M9) := by
  have s1 : sX L xs (nI i + 1) = some (xs (i + 1)) := lw_x (k := 1) (by omega) hL
  have s2 : sX L xs (nI i + 2) = some (xs (i + 2)) := lw_x (k := 2) (by omega) hL
  have e6 : nI i + 6 = nI (i + 6) := nI_add i 6
  unfold jL_law_1411
  simp only [s1, s2, e6, Option.bind_some]
  exact lw_pair (K := fun M' => K M' 0 137 (nI (i + 6))) hT (C_find hC hN _ _) (fun M' h => T_find h hI hN _ _) (fun M' c t => hK M' _ c t (I_find hI _ _))
theorem lw_quiet (hN : 2000 ≤ N) (hi : i + 6 ≤ L) (hL : L ≤ 384) (hC : RelC M σ) (hT : RelT M σ) (hI : Ig σ) (hK : LwK K i) : ∃ M9, jL_law_1444 N L xs K M 0 137 (nI i) = some (1, M9) := by
  have s1 : sX L xs (nI i + 1) = some (xs (i + 1)) := lw_x (k := 1) (by omega) hL
  have s2 : sX L xs (nI i + 2) = some (xs (i + 2)) := lw_x (k := 2) (by omega) hL
  have e6 : nI i + 6 = nI (i + 6) := nI_add i 6
  unfold jL_law_1444
  simp only [s1, s2, e6, Option.bind_some]
  exact lw_pair (K := fun M' => K M' 0 137 (nI (i + 6))) hT (C_quiet hC hI _ _) (fun M' h => T_quiet h hI _ _) (fun M' c t => hK M' _ c t (I_quiet hI _ _))
theorem lw_bound (hN : 2000 ≤ N) (hi : i + 6 ≤ L) (hL : L ≤ 384) (hC : RelC M σ) (hT : RelT M σ) (hI : Ig σ) (hK : LwK K i) : ∃ M9, jL_law_1477 N L xs K M 0 137 (nI i) = some (1, M9) := by
  have s1 : sX L xs (nI i + 1) = some (xs (i + 1)) := lw_x (k := 1) (by omega) hL
  have e6 : nI i + 6 = nI (i + 6) := nI_add i 6
  unfold jL_law_1477
  simp only [s1, e6, Option.bind_some]
  exact lw_pair (K := fun M' => K M' 0 137 (nI (i + 6))) hT (C_bound hC hI hN _) (fun M' h => T_bound h hI hN _) (fun M' c t => hK M' _ c t (I_bound hI _))
theorem lw_gone (hN : 2000 ≤ N) (hi : i + 6 ≤ L) (hL : L ≤ 384) (hC : RelC M σ) (hT : RelT M σ) (hI : Ig σ) (hK : LwK K i) : ∃ M9, jL_law_1500 N L xs K M 0 137 (nI i) = some (1, M9) := by
  have s1 : sX L xs (nI i + 1) = some (xs (i + 1)) := lw_x (k := 1) (by omega) hL
  have s2 : sX L xs (nI i + 2) = some (xs (i + 2)) := lw_x (k := 2) (by omega) hL
  have s3 : sX L xs (nI i + 3) = some (xs (i + 3)) := lw_x (k := 3) (by omega) hL
  have e6 : nI i + 6 = nI (i + 6) := nI_add i 6
  unfold jL_law_1500
  simp only [s1, s2, s3, e6, Option.bind_some]
  exact lw_pair (K := fun M' => K M' 0 137 (nI (i + 6))) hT (C_gone hC hN _ _ _) (fun M' h => T_gone h hI hN _ _ _) (fun M' c t => hK M' _ c t (I_gone hI _ _ _))
theorem lw_seed (hN : 2000 ≤ N) (hi : i + 6 ≤ L) (hL : L ≤ 384) (hC : RelC M σ) (hT : RelT M σ) (hI : Ig σ) (hK : LwK K i) : ∃ M9, jL_law_1543 N L xs K M 0 137 (nI i) = some (1, M9) := by
  have s1 : sX L xs (nI i + 1) = some (xs (i + 1)) := lw_x (k := 1) (by omega) hL
  have e6 : nI i + 6 = nI (i + 6) := nI_add i 6
  unfold jL_law_1543
  simp only [s1, e6, Option.bind_some]
  exact lw_pair (K := fun M' => K M' 0 137 (nI (i + 6))) hT (C_seed hC _) (fun M' h => T_seed h hI _) (fun M' c t => hK M' _ c t (I_seed hI _))
theorem lw_made (hN : 2000 ≤ N) (hi : i + 6 ≤ L) (hL : L ≤ 384) (hC : RelC M σ) (hT : RelT M σ) (hI : Ig σ) (hK : LwK K i) : ∃ M9, jL_law_1566 N L xs K M 0 137 (nI i) = some (1, M9) := by
  have s1 : sX L xs (nI i + 1) = some (xs (i + 1)) := lw_x (k := 1) (by omega) hL
  have s2 : sX L xs (nI i + 2) = some (xs (i + 2)) := lw_x (k := 2) (by omega) hL
  have e6 : nI i + 6 = nI (i + 6) := nI_add i 6
  unfold jL_law_1566
  simp only [s1, s2, e6, Option.bind_some]
  exact lw_pair (K := fun M' => K M' 0 137 (nI (i + 6))) hT (C_made hC hI hN _ _) (fun M' h => T_made h hI hN _ _) (fun M' c t => hK M' _ c t (I_made hI _ _))
theorem lw_both (hN : 2000 ≤ N) (hi : i + 6 ≤ L) (hL : L ≤ 384) (hC : RelC M σ) (hT : RelT M σ) (hI : Ig σ) (hK : LwK K i) : ∃ M9, jL_law_1599 N L xs K M 0 137 (nI i) = some (1, M9) := by
  have s1 : sX L xs (nI i + 1) = some (xs (i + 1)) := lw_x (k := 1) (by omega) hL
  have s2 : sX L xs (nI i + 2) = some (xs (i + 2)) := lw_x (k := 2) (by omega) hL
  have e6 : nI i + 6 = nI (i + 6) := nI_add i 6
  unfold jL_law_1599
  simp only [s1, s2, e6, Option.bind_some]
  exact lw_pair (K := fun M' => K M' 0 137 (nI (i + 6))) hT (C_both hC hI hN _ _) (fun M' h => T_both h hI hN _ _) (fun M' c t => hK M' _ c t (I_both hI _ _))
theorem lw_voice (hN : 2000 ≤ N) (hi : i + 6 ≤ L) (hL : L ≤ 384) (hC : RelC M σ) (hT : RelT M σ) (hI : Ig σ) (hK : LwK K i) : ∃ M9, jL_law_1632 N L xs K M 0 137 (nI i) = some (1, M9) := by
  have s1 : sX L xs (nI i + 1) = some (xs (i + 1)) := lw_x (k := 1) (by omega) hL
  have s2 : sX L xs (nI i + 2) = some (xs (i + 2)) := lw_x (k := 2) (by omega) hL
  have s3 : sX L xs (nI i + 3) = some (xs (i + 3)) := lw_x (k := 3) (by omega) hL
  have e6 : nI i + 6 = nI (i + 6) := nI_add i 6
  unfold jL_law_1632
  simp only [s1, s2, s3, e6, Option.bind_some]
  exact lw_pair (K := fun M' => K M' 0 137 (nI (i + 6))) hT (C_voice hC hI hN _ _ _) (fun M' h => T_voice h hI _ _ _) (fun M' c t => hK M' _ c t (I_voice hI _ _ _))
theorem lw_trace (hN : 2000 ≤ N) (hi : i + 6 ≤ L) (hL : L ≤ 384) (hC : RelC M σ) (hT : RelT M σ) (hI : Ig σ) (hK : LwK K i) : ∃ M9, jL_law_1675 N L xs K M 0 137 (nI i) = some (1, M9) := by
  have s1 : sX L xs (nI i + 1) = some (xs (i + 1)) := lw_x (k := 1) (by omega) hL
  have e6 : nI i + 6 = nI (i + 6) := nI_add i 6
  unfold jL_law_1675
  simp only [s1, e6, Option.bind_some]
  exact lw_pair (K := fun M' => K M' 0 137 (nI (i + 6))) hT (C_trace hC hI _) (fun M' h => T_trace h hI _) (fun M' c t => hK M' _ c t (I_trace hI _))
theorem lw_sheet (hN : 2000 ≤ N) (hi : i + 6 ≤ L) (hL : L ≤ 384) (hC : RelC M σ) (hT : RelT M σ) (hI : Ig σ) (hK : LwK K i) : ∃ M9, jL_law_1698 N L xs K M 0 137 (nI i) = some (1, M9) := by
  have s1 : sX L xs (nI i + 1) = some (xs (i + 1)) := lw_x (k := 1) (by omega) hL
  have s2 : sX L xs (nI i + 2) = some (xs (i + 2)) := lw_x (k := 2) (by omega) hL
  have s3 : sX L xs (nI i + 3) = some (xs (i + 3)) := lw_x (k := 3) (by omega) hL
  have e6 : nI i + 6 = nI (i + 6) := nI_add i 6
  unfold jL_law_1698
  simp only [s1, s2, s3, e6, Option.bind_some]
  exact lw_pair (K := fun M' => K M' 0 137 (nI (i + 6))) hT (C_sheet hC hN _ _ _) (fun M' h => T_sheet h hI hN _ _ _) (fun M' c t => hK M' _ c t (I_sheet hI _ _ _))
theorem lw_put (hN : 2000 ≤ N) (hi : i + 6 ≤ L) (hL : L ≤ 384) (hC : RelC M σ) (hT : RelT M σ) (hI : Ig σ) (hK : LwK K i) : ∃ M9, jL_law_1741 N L xs K M 0 137 (nI i) = some (1, M9) := by
  have s1 : sX L xs (nI i + 1) = some (xs (i + 1)) := lw_x (k := 1) (by omega) hL
  have s2 : sX L xs (nI i + 2) = some (xs (i + 2)) := lw_x (k := 2) (by omega) hL
  have s3 : sX L xs (nI i + 3) = some (xs (i + 3)) := lw_x (k := 3) (by omega) hL
  have e6 : nI i + 6 = nI (i + 6) := nI_add i 6
  unfold jL_law_1741
  simp only [s1, s2, s3, e6, Option.bind_some]
  exact lw_pair (K := fun M' => K M' 0 137 (nI (i + 6))) hT (C_put hC hI _ _ _) (fun M' h => T_putS h hI _ _ _) (fun M' c t => hK M' _ c t (I_put hI _ _ _))
theorem lw_move (hN : 2000 ≤ N) (hi : i + 6 ≤ L) (hL : L ≤ 384) (hC : RelC M σ) (hT : RelT M σ) (hI : Ig σ) (hK : LwK K i) : ∃ M9, jL_law_1784 N L xs K M 0 137 (nI i) = some (1, M9) := by
  have s1 : sX L xs (nI i + 1) = some (xs (i + 1)) := lw_x (k := 1) (by omega) hL
  have s2 : sX L xs (nI i + 2) = some (xs (i + 2)) := lw_x (k := 2) (by omega) hL
  have s3 : sX L xs (nI i + 3) = some (xs (i + 3)) := lw_x (k := 3) (by omega) hL
  have s4 : sX L xs (nI i + 4) = some (xs (i + 4)) := lw_x (k := 4) (by omega) hL
  have s5 : sX L xs (nI i + 5) = some (xs (i + 5)) := lw_x (k := 5) (by omega) hL
  have e6 : nI i + 6 = nI (i + 6) := nI_add i 6
  unfold jL_law_1784
  simp only [s1, s2, s3, s4, s5, e6, Option.bind_some]
  exact lw_pair (K := fun M' => K M' 0 137 (nI (i + 6))) hT (C_move hC hI _ _ _ _ _) (fun M' h => T_move h hI hN _ _ _ _ _) (fun M' c t => hK M' _ c t (I_move hI _ _ _ _ _))
theorem lw_image (hN : 2000 ≤ N) (hi : i + 6 ≤ L) (hL : L ≤ 384) (hC : RelC M σ) (hT : RelT M σ) (hI : Ig σ) (hK : LwK K i) : ∃ M9, jL_law_1847 N L xs K M 0 137 (nI i) = some (1, M9) := by
  have e6 : nI i + 6 = nI (i + 6) := nI_add i 6
  unfold jL_law_1847
  simp only [e6]
  exact lw_pair (K := fun M' => K M' 0 137 (nI (i + 6))) hT (C_image hC hI hN) (fun M' h => T_image h hI hN) (fun M' c t => hK M' _ c t (I_image hI))
theorem lw_restore (hN : 2000 ≤ N) (hi : i + 6 ≤ L) (hL : L ≤ 384) (hC : RelC M σ) (hT : RelT M σ) (hI : Ig σ) (hK : LwK K i) : ∃ M9, jL_law_1860 N L xs K M 0 137 (nI i) = some (1, M9) := by
  have e6 : nI i + 6 = nI (i + 6) := nI_add i 6
  unfold jL_law_1860
  simp only [e6]
  exact lw_pair (K := fun M' => K M' 0 137 (nI (i + 6))) hT (C_restore hC hI hN) (fun M' h => T_restore h hI hN) (fun M' c t => hK M' _ c t (I_restore hI))
theorem lw_tell (hN : 2000 ≤ N) (hi : i + 6 ≤ L) (hL : L ≤ 384) (hC : RelC M σ) (hT : RelT M σ) (hI : Ig σ) (hK : LwK K i) : ∃ M9, jL_law_1873 N L xs K M 0 137 (nI i) = some (1, M9) := by
  have s1 : sX L xs (nI i + 1) = some (xs (i + 1)) := lw_x (k := 1) (by omega) hL
  have e6 : nI i + 6 = nI (i + 6) := nI_add i 6
  unfold jL_law_1873
  simp only [s1, e6, Option.bind_some]
  exact lw_pair (K := fun M' => K M' 0 137 (nI (i + 6))) hT (C_tell hC hI _) (fun M' h => T_tell h hI _) (fun M' c t => hK M' _ c t (I_tell hI _))
theorem lw_check (hN : 2000 ≤ N) (hi : i + 6 ≤ L) (hL : L ≤ 384) (hC : RelC M σ) (hT : RelT M σ) (hI : Ig σ) (hK : LwK K i) : ∃ M9, jL_law_1896 N L xs K M 0 137 (nI i) = some (1, M9) := by
  have s1 : sX L xs (nI i + 1) = some (xs (i + 1)) := lw_x (k := 1) (by omega) hL
  have e6 : nI i + 6 = nI (i + 6) := nI_add i 6
  unfold jL_law_1896
  simp only [s1, e6, Option.bind_some]
  exact lw_pair (K := fun M' => K M' 0 137 (nI (i + 6))) hT (C_check hC hI hN _) (fun M' h => T_check h hI hN _) (fun M' c t => hK M' _ c t (I_check hI _))
theorem lw_count (hN : 2000 ≤ N) (hi : i + 6 ≤ L) (hL : L ≤ 384) (hC : RelC M σ) (hT : RelT M σ) (hI : Ig σ) (hK : LwK K i) : ∃ M9, jL_law_1919 N L xs K M 0 137 (nI i) = some (1, M9) := by
  have s1 : sX L xs (nI i + 1) = some (xs (i + 1)) := lw_x (k := 1) (by omega) hL
  have e6 : nI i + 6 = nI (i + 6) := nI_add i 6
  unfold jL_law_1919
  simp only [s1, e6, Option.bind_some]
  exact lw_pair (K := fun M' => K M' 0 137 (nI (i + 6))) hT (C_count hC _) (fun M' h => T_count h hI _) (fun M' c t => hK M' _ c t (I_count hI _))
theorem lw_told (hN : 2000 ≤ N) (hi : i + 6 ≤ L) (hL : L ≤ 384) (hC : RelC M σ) (hT : RelT M σ) (hI : Ig σ) (hK : LwK K i) : ∃ M9, jL_law_1942 N L xs K M 0 137 (nI i) = some (1, M9) := by
  have s1 : sX L xs (nI i + 1) = some (xs (i + 1)) := lw_x (k := 1) (by omega) hL
  have e6 : nI i + 6 = nI (i + 6) := nI_add i 6
  unfold jL_law_1942
  simp only [s1, e6, Option.bind_some]
  exact lw_pair (K := fun M' => K M' 0 137 (nI (i + 6))) hT (C_told hC hI _) (fun M' h => T_told h hI _) (fun M' c t => hK M' _ c t (I_told hI _))
end LS
