/-! all rings are read (reference); counts -/
def RdA (A : Nat → Nat → Int32) (S : St) (n : Nat) : Prop := ∀ r, r < n → A 3 r = shn S r ∧ A 4 r = if wy S r = 0 then 0 else 1
theorem T_house {M : Mm} {F : Nat → Int32} {A : Nat → Nat → Int32} {σ : Sg} (h : TwAt M F A) (r : TwR F A σ) (hI : Ig σ) {b : Nat} (hb : b < (sr (g0 σ) 1).length) : aI M 0 138 ((12 : Int32) + nI b) = some ((sr (g0 σ) 1).getD b 0) := by
  have hl : (sr (g0 σ) 1).length ≤ 6 := hI.1.L 1 (by decide)
  have a1 := r.1.2.1 1 (by decide) b hb
  have t1 : tix 1 b = 12 + b := by show 12 + 1 * b = _; omega
  rw [t1] at a1
  rw [show (12 : Int32) + nI b = nI (12 + b) from nI_add 12 b, T_m h (show 12 + b < 950 by omega), a1]
theorem T_read1 {N : Nat} {K : Mm → Nat → Int32 → Option Mm} {M : Mm} {F : Nat → Int32} {A : Nat → Nat → Int32} {σ : Sg} (h : TwAt M F A) (r : TwR F A σ) (hI : Ig σ) (hN : 2000 ≤ N) {i : Nat} (hi : i < (sr (g0 σ) 2).length) (hd : RdA A (g0 σ) i) : ∃ M' A', BX11_readAll_2 N K M 137 (nI i) = K M' 137 (nI (i + 1)) ∧ TwAt M' F A' ∧ TwR F A' σ ∧ RdA A' (g0 σ) (i + 1) ∧ FrT M M' ∧ A' 0 = A 0 := by
  have hl : (sr (g0 σ) 2).length ≤ 96 := hI.1.L 2 (by decide)
  have hl1 : (sr (g0 σ) 1).length ≤ 6 := hI.1.L 1 (by decide)
  obtain ⟨b, hb, eb⟩ := hI.1.bar1 hi
  obtain ⟨u, hu, eu⟩ := hI.1.hse hb
  have g0' : fX11_ring M 137 (nI i) 0 = some (nI b) := by rw [← eb]; exact T_rg h r hI hi (w := 0) (by decide)
  have r4 : gQ M 11 137 4 = some 141 := T_ref h rfl
  obtain ⟨M1, a1, a2, a3⟩ := T_put h 3 (by decide) (j := i) (show i < 96 by omega) (shn (g0 σ) i)
  have t1 : TwR F (u2 A 3 i (shn (g0 σ) i)) σ := r.s rfl rfl rfl rfl rfl rfl rfl
  have h1 := T_house a2 t1 hI hb
  rw [eu] at h1
  have r5 : gQ M1 11 137 5 = some 142 := T_ref a2 rfl
  obtain ⟨M2, b1, b2, b3⟩ := T_put a2 4 (by decide) (j := i) (show i < 96 by omega) 1
  have t2 : TwR F (u2 (u2 A 3 i (shn (g0 σ) i)) 4 i 1) σ := t1.s rfl rfl rfl rfl rfl rfl rfl
  have ef : aI M2 0 138 ((482 : Int32) + (52 : Int32) * nI u) = some (A 0 (482 + 52 * u)) := by
    rw [show (52 : Int32) * nI u = nI (52 * u) from pk_mul 52 u, show (482 : Int32) + nI (52 * u) = nI (482 + 52 * u) from nI_add 482 _]
    exact T_m b2 (by omega)
  have ewo : wyO (g0 σ) (nI b) = sx (g0 σ) u := by
    unfold wyO
    rw [lg_nI (by omega), eu, nI_clamp (by omega)]
  have e1 : sI M 0 141 (nI i) (shn (g0 σ) i) = some M1 := a1
  have e2 : sI M1 1 142 (nI i) 1 = some M2 := b1
  unfold BX11_readAll_2
  simp only [T_q0 h, (T_cnt h r).2.1, g0', r4, T_shown h r hI hi, e1, T_q0 a2, h1, r5, e2, T_q0 b2, ef, Option.bind_some, nI_1]
  rw [if_neg (nI_ge hi (by omega))]
  have tx := r.1.2.2.2 u (by omega)
  cases hs : sx (g0 σ) u with
  | none =>
    rw [hs] at tx
    have tx' : A 0 (482 + 52 * u) = 0 := tx
    rw [tx', if_pos rfl]
    refine ⟨M2, _, rfl, b2, t2, fun x hx => ?_, a3.trans b3, rfl⟩
    show upd (A 3) i (shn (g0 σ) i) x = _ ∧ upd (A 4) i 1 x = _
    by_cases e : x = i
    · subst e
      have ew : wy (g0 σ) x = 1 := by
        unfold wy
        rw [eb, ewo, hs]
      rw [pk_us, pk_us, ew, if_neg (by decide)]
      exact ⟨rfl, rfl⟩
    · rw [pk_un e, pk_un e]
      exact hd x (by omega)
  | some code =>
    rw [hs] at tx
    have tx' : A 0 (482 + 52 * u) = 1 := tx.1
    rw [tx', if_neg (by decide)]
    have r15 : gQ M2 11 137 15 = some 147 := T_ref b2 rfl
    have g2 : fX11_ring M2 137 (nI i) 2 = some ((sr (g0 σ) 4).getD i 0) := T_rg b2 t2 hI hi (w := 2) (by decide)
    obtain ⟨M3, c1, c2, c3⟩ := T_put b2 9 (by decide) (j := 0) (show 0 < 4 by omega) ((sr (g0 σ) 4).getD i 0)
    have t3 : TwR F (u2 (u2 (u2 A 3 i (shn (g0 σ) i)) 4 i 1) 9 0 ((sr (g0 σ) 4).getD i 0)) σ := t2.s rfl rfl rfl rfl rfl rfl rfl
    have r15' : gQ M3 11 137 15 = some 147 := T_ref c2 rfl
    obtain ⟨M4, d1, d2, d3⟩ := T_put c2 9 (by decide) (j := 1) (show 1 < 4 by omega) (gap (g0 σ) i)
    have r15'' : gQ M4 11 137 15 = some 147 := T_ref d2 rfl
    have r4'' : gQ M4 11 137 4 = some 141 := T_ref d2 rfl
    have sh : aI M4 0 141 (nI i) = some (shn (g0 σ) i) := by
      have q := T_get d2 3 (by decide) (j := i) (show i < 96 by omega)
      rw [show u2 (u2 (u2 (u2 A 3 i (shn (g0 σ) i)) 4 i 1) 9 0 ((sr (g0 σ) 4).getD i 0)) 9 1 (gap (g0 σ) i) 3 i = upd (A 3) i (shn (g0 σ) i) i from rfl, pk_us] at q
      exact q
    obtain ⟨M5, f1, f2, f3⟩ := T_put d2 9 (by decide) (j := 2) (show 2 < 4 by omega) (fmd (shn (g0 σ) i) 240)
    have r15''' : gQ M5 11 137 15 = some 147 := T_ref f2 rfl
    obtain ⟨M6, k1, k2, k3⟩ := T_put f2 9 (by decide) (j := 3) (show 3 < 4 by omega) (nI b)
    have r5' : gQ M6 11 137 5 = some 142 := T_ref k2 rfl
    have ok := hI.1.2.2.2.2.2.1 u code (by omega) hs
    obtain ⟨M7, A7, s1, s2, s3, s4⟩ := T_says (N := N) k2 (u := u) (by omega) (code := code) tx ok hN
    have n9 : u2 (u2 (u2 (u2 (u2 (u2 A 3 i (shn (g0 σ) i)) 4 i 1) 9 0 ((sr (g0 σ) 4).getD i 0)) 9 1 (gap (g0 σ) i)) 9 2 (fmd (shn (g0 σ) i) 240)) 9 3 (nI b) 9 = upd (upd (upd (upd (A 9) 0 ((sr (g0 σ) 4).getD i 0)) 1 (gap (g0 σ) i)) 2 (fmd (shn (g0 σ) i) 240)) 3 (nI b) := rfl
    have ew : wy (g0 σ) i = ev ((sr (g0 σ) 4).getD i 0) (gap (g0 σ) i) (fmd (shn (g0 σ) i) 240) (nI b) code := by
      unfold wy
      rw [eb, ewo, hs]
    have s1' : fX11_says N M6 137 (nI u) = some (wy (g0 σ) i, M7) := by
      rw [s1, ew]
      rfl
    have e3 : sI M2 0 147 0 ((sr (g0 σ) 4).getD i 0) = some M3 := c1
    have e4 : sI M3 0 147 1 (gap (g0 σ) i) = some M4 := d1
    have e5 : sI M4 0 147 2 (fmd (shn (g0 σ) i) 240) = some M5 := f1
    have e6 : sI M5 0 147 3 (nI b) = some M6 := k1
    simp only [r15, g2, e3, r15', T_gap c2 t3 hI hN hi, e4, r15'', r4'', sh, T_rest M4 (show 0 < (240 : Int32).toInt by decide), e5, r15''', e6, r5', s1', bd2_s, Option.bind_some]
    have fin : ∀ v, v = (if wy (g0 σ) i = 0 then (0 : Int32) else 1) → ∃ M' A', ((sI M7 1 142 (nI i) v).bind fun M66 => K M66 137 (nI (i + 1))) = K M' 137 (nI (i + 1)) ∧ TwAt M' F A' ∧ TwR F A' σ ∧ RdA A' (g0 σ) (i + 1) ∧ FrT M M' ∧ A' 0 = A 0 := by
      intro v hv
      obtain ⟨M8, l1, l2, l3⟩ := T_put s2 4 (by decide) (j := i) (show i < 96 by omega) v
      have e8 : sI M7 1 142 (nI i) v = some M8 := l1
      refine ⟨M8, _, by rw [e8]; rfl, l2, ?_, fun x hx => ?_, ((((((a3.trans b3).trans c3).trans d3).trans f3).trans k3).trans s4).trans l3, by rw [u2_n (by decide), s3 0 (by decide)]; rfl⟩
      · refine (t3.s (A' := A7) ?_ ?_ ?_ ?_ ?_ ?_ ?_).s rfl rfl rfl rfl rfl rfl rfl
        · rw [s3 0 (by decide)]; rfl
        · rw [s3 1 (by decide)]; rfl
        · rw [s3 2 (by decide)]; rfl
        · rw [s3 5 (by decide)]; rfl
        · rw [s3 6 (by decide)]; rfl
        · rw [s3 7 (by decide)]; rfl
        · rw [s3 14 (by decide)]; rfl
      · have w3 : u2 A7 4 i v 3 = upd (A 3) i (shn (g0 σ) i) := by
          rw [u2_n (by decide), s3 3 (by decide)]; rfl
        have w4 : u2 A7 4 i v 4 = upd (upd (A 4) i 1) i v := by
          show upd (A7 4) i v = _
          rw [s3 4 (by decide)]; rfl
        rw [w3, w4]
        by_cases e : x = i
        · subst e
          rw [pk_us, pk_us]
          exact ⟨rfl, hv⟩
        · rw [pk_un e, pk_un e, pk_un e]
          exact hd x (by omega)
    by_cases z : wy (g0 σ) i = 0
    · rw [if_pos z]
      exact fin 0 (by rw [if_pos z])
    · rw [if_neg z]
      exact fin 1 (by rw [if_neg z])
theorem T_readL {N : Nat} {F : Nat → Int32} {σ : Sg} (hI : Ig σ) (hN : 2000 ≤ N) : ∀ (k i f : Nat) (M : Mm) (A : Nat → Nat → Int32), i + k = (sr (g0 σ) 2).length → k < f → TwAt M F A → TwR F A σ → RdA A (g0 σ) i → ∃ M' A', LX11_readAll_2 N f M 137 (nI i) = some M' ∧ TwAt M' F A' ∧ TwR F A' σ ∧ RdA A' (g0 σ) (sr (g0 σ) 2).length ∧ FrT M M' ∧ A' 0 = A 0 := by
  have hl : (sr (g0 σ) 2).length ≤ 96 := hI.1.L 2 (by decide)
  intro k
  induction k with
  | zero =>
    intro i f M A hk hf h r hd
    obtain ⟨f, rfl⟩ : ∃ g, f = g + 1 := ⟨f - 1, by omega⟩
    have e : i = (sr (g0 σ) 2).length := by omega
    subst e
    refine ⟨M, A, ?_, h, r, hd, Of.rf, rfl⟩
    show BX11_readAll_2 N (LX11_readAll_2 N f) M 137 _ = _
    unfold BX11_readAll_2
    simp only [T_q0 h, (T_cnt h r).2.1, Option.bind_some]
    rw [if_pos (nI_le (Nat.le_refl _) (by omega))]
  | succ k ih =>
    intro i f M A hk hf h r hd
    obtain ⟨f, rfl⟩ : ∃ g, f = g + 1 := ⟨f - 1, by omega⟩
    obtain ⟨M1, A1, a1, a2, a3, a4, a5, a6⟩ := T_read1 (N := N) (K := LX11_readAll_2 N f) h r hI hN (show i < (sr (g0 σ) 2).length by omega) hd
    obtain ⟨M2, A2, b1, b2, b3, b4, b5, b6⟩ := ih (i + 1) f M1 A1 (by omega) (by omega) a2 a3 a4
    refine ⟨M2, A2, ?_, b2, b3, b4, a5.trans b5, b6.trans a6⟩
    show BX11_readAll_2 N (LX11_readAll_2 N f) M 137 _ = _
    rw [a1, b1]
theorem T_readAll {N : Nat} {M : Mm} {σ : Sg} (h : RelT M σ) (hI : Ig σ) (hN : 2000 ≤ N) : ∃ M' F A', fX11_readAll N M 137 = some M' ∧ TwAt M' F A' ∧ TwR F A' σ ∧ RdA A' (g0 σ) (sr (g0 σ) 2).length ∧ FrT M M' := by
  obtain ⟨F, A, k1, k2⟩ := h
  have hl : (sr (g0 σ) 2).length ≤ 96 := hI.1.L 2 (by decide)
  obtain ⟨M1, A1, a1, a2, a3, a4, a5, -⟩ := T_readL (N := N) (F := F) hI hN (sr (g0 σ) 2).length 0 N M A (by omega) (by omega) k1 k2 (fun r hr => by omega)
  refine ⟨M1, F, A1, ?_, a2, a3, a4, a5⟩
  simp only [fX11_readAll, T_c k1, Option.bind_some]
  exact a1
/-- a ring counts by a line -/
abbrev cnt (S : St) (l : Int32) (r : Nat) : Prop := l < (sr S 4).getD r 0 ∧ ¬ wy S r = 0
theorem T_isCounted {M : Mm} {F : Nat → Int32} {A : Nat → Nat → Int32} {σ : Sg} (h : TwAt M F A) (r : TwR F A σ) (hd : RdA A (g0 σ) (sr (g0 σ) 2).length) (hI : Ig σ) {i : Nat} (hi : i < (sr (g0 σ) 2).length) (bar l : Int32) : fX11_isCounted M 137 (nI i) bar l = some (if (sr (g0 σ) 2).getD i 0 = bar ∧ cnt (g0 σ) l i then 1 else 0) := by
  have hl : (sr (g0 σ) 2).length ≤ 96 := hI.1.L 2 (by decide)
  have e0 : fX11_ring M 137 (nI i) 0 = some ((sr (g0 σ) 2).getD i 0) := T_rg h r hI hi (w := 0) (by decide)
  have e2 : fX11_ring M 137 (nI i) 2 = some ((sr (g0 σ) 4).getD i 0) := T_rg h r hI hi (w := 2) (by decide)
  have r5 : gQ M 11 137 5 = some 142 := T_ref h rfl
  have e4 : aI M 1 142 (nI i) = some (A 4 i) := T_get h 4 (by decide) (show i < 96 by omega)
  simp only [fX11_isCounted, T_c h, e0, e2, r5, e4, (hd i hi).2, Option.bind_some, gd]
  by_cases z : (sr (g0 σ) 2).getD i 0 = bar
  · rw [if_pos z]
    by_cases y : l < (sr (g0 σ) 4).getD i 0
    · rw [if_neg (Int32.not_le.mpr y)]
      by_cases x : wy (g0 σ) i = 0
      · rw [if_pos x, if_pos rfl, if_neg (fun q => q.2.2 x)]
      · rw [if_neg x, if_neg (by decide), if_pos ⟨z, y, x⟩]
    · rw [if_pos (Int32.not_lt.mp y), if_neg (fun q => y q.2.1)]
  · rw [if_neg z, if_neg (fun q => z q.1)]
theorem C_isCounted {M : Mm} {t : Nat} {S : St} {T : List Nat} (h : HrT M t S T) {i r : Nat} (hi : T[i]? = some r) (hl : i < 2 ^ 31) (l : Int32) : fX7_isCounted M t (nI i) l = some (if cnt S l r then 1 else 0) := by
  have q2 : gQ M 7 t 2 = some (t + 5) := gQ_ok h.1.1 rfl
  have q3 : gQ M 7 t 3 = some (t + 7) := gQ_ok h.1.1 rfl
  have eh : (T.map (fun r => (sr S 4).getD r 0)).getD i 0 = (sr S 4).getD r 0 := by
    rw [List.getD_eq_getElem?_getD, List.getElem?_map, hi]; rfl
  have ew : (T.map (wy S)).getD i 0 = wy S r := by
    rw [List.getD_eq_getElem?_getD, List.getElem?_map, hi]; rfl
  simp only [fX7_isCounted, gC_ok h.1.1, q2, q3, R_at h.1.2.2.2.1, R_at h.2, lg_nI hl, eh, ew, Option.bind_some]
  by_cases y : l < (sr S 4).getD r 0
  · rw [if_neg (Int32.not_le.mpr y)]
    by_cases x : wy S r = 0
    · rw [if_pos x, if_neg (fun q => q.2 x)]
    · rw [if_neg x, if_pos ⟨y, x⟩]
  · rw [if_pos (Int32.not_lt.mp y), if_neg (fun q => y q.1)]
def sp_counts (σ : Sg) (a l : Int32) : An := if isR (g0 σ) a ∧ wi l 0 999 then (if cnt (g0 σ) l a.toNatClampNeg then 1 else 0, σ) else er σ 1
theorem I_counts {σ : Sg} (h : Ig σ) (a l : Int32) : Ig (sp_counts σ a l).2 := by
  unfold sp_counts
  by_cases g : isR (g0 σ) a ∧ wi l 0 999
  · rw [if_pos g]; exact h
  · rw [if_neg g]; exact h.er 1
theorem C_counts {N : Nat} {M : Mm} {σ : Sg} (h : RelC M σ) (hI : Ig σ) (hN : 2000 ≤ N) (a l : Int32) : DoC M (fX10_counts N M 0 a l) (sp_counts σ a l) := by
  have J := DoC.er h (a := 1) 1 rfl (by decide)
  have hl : (sr (g0 σ) 2).length ≤ 96 := hI.1.L 2 (by decide)
  unfold fX10_counts sp_counts jX10_counts_15
  simp only [h.c, C_isRing h, C_isLine, Option.bind_some, gd]
  by_cases g : isR (g0 σ) a ∧ wi l 0 999
  · rw [if_pos g, if_pos g.1, if_pos g.2]
    obtain ⟨j, hj, rfl⟩ := (wi_n (by omega)).mp g.1
    have hj2 : j < 2 ^ 31 := by omega
    obtain ⟨b, hb, eb⟩ := hI.1.bar1 hj
    rw [nI_clamp hj2]
    obtain ⟨M1, a1, a2, a3, a4, a5⟩ := C_hear (N := N) (t := 109) h hI (Or.inr (Or.inr rfl)) hN hb
    obtain ⟨i, hi, e⟩ := List.getElem_of_mem ((mem_tape (bar := nI b)).mpr ⟨hj, eb⟩)
    have ei : (tape (g0 σ) (nI b))[i]? = some j := by rw [List.getElem?_eq_getElem hi, e]
    have ht := tape_len (g0 σ) (nI b)
    simp only [h.q0, h.q6, h.f2, R_at h.w2, lg_nI hj2, eb, a1, a2.q6, C_place a3.1 (tape_pw hI.1 _) (by omega) (fun x hx => by have := (mem_tape.mp hx).1; omega) ei hN, C_isCounted a3 ei (by omega), Option.bind_some, gd]
    by_cases z : cnt (g0 σ) l j
    · rw [if_pos z, if_pos z]; exact DoC.tr a4 (DoC.same a2)
    · rw [if_neg z, if_neg z]; exact DoC.tr a4 (DoC.same a2)
  · rw [if_neg g]
    by_cases g1 : isR (g0 σ) a
    · rw [if_pos g1, if_neg (fun q => g ⟨g1, q⟩)]; exact J
    · rw [if_neg g1]; exact J
theorem T_counts {N : Nat} {M : Mm} {σ : Sg} (h : RelT M σ) (hI : Ig σ) (hN : 2000 ≤ N) (a l : Int32) : DoT M (fX11_counts N M 137 a l) (sp_counts σ a l) := by
  obtain ⟨F, A, k1, k2⟩ := id h
  have J := DoT.er h hI.2.2.1 (a := 1) 1 rfl (by decide)
  have hl : (sr (g0 σ) 2).length ≤ 96 := hI.1.L 2 (by decide)
  unfold fX11_counts sp_counts jX11_counts_15
  simp only [T_c k1, T_isRing k1 k2, T_isLine, Option.bind_some, gd]
  by_cases g : isR (g0 σ) a ∧ wi l 0 999
  · rw [if_pos g, if_pos g.1, if_pos g.2]
    obtain ⟨j, hj, rfl⟩ := (wi_n (by omega)).mp g.1
    have hj2 : j < 2 ^ 31 := by omega
    rw [nI_clamp hj2]
    obtain ⟨M1, F1, A1, a1, a2, a3, a4, a5⟩ := T_readAll (N := N) h hI hN
    have e0 : fX11_ring M1 137 (nI j) 0 = some ((sr (g0 σ) 2).getD j 0) := T_rg a2 a3 hI hj (w := 0) (by decide)
    simp only [a1, e0, T_isCounted a2 a3 a4 hI hj, Option.bind_some, gd]
    have R1 : RelT M1 σ := ⟨F1, A1, a2, a3⟩
    by_cases z : cnt (g0 σ) l j
    · rw [if_pos z, if_pos ⟨trivial, z⟩]; exact DoT.tr a5 (DoT.same R1)
    · rw [if_neg z, if_neg (fun q => z q.2)]; exact DoT.tr a5 (DoT.same R1)
  · rw [if_neg g]
    by_cases g1 : isR (g0 σ) a
    · rw [if_pos g1, if_neg (fun q => g ⟨g1, q⟩)]; exact J
    · rw [if_neg g1]; exact J
