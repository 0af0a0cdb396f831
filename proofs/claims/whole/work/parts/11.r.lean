/-! check -/
def clrW (σ : Sg) : Sg := (srow (g0 σ) 12 [], σ.2)
def fuL : List Int32 → List Int32 → Nat → Int32
  | [], [], _ => -1
  | x :: xs, y :: ys, i => if x = y then fuL xs ys (i + 1) else nI i
  | [], _ :: _, i => nI i
  | _ :: _, [], i => nI i
def sp_check (σ : Sg) (a : Int32) : An := if isK (g0 σ) a then (1 + fuL (sr (g0 σ) 12) ((metL (g0 σ) (cL ((sk (g0 σ)).getD a.toNatClampNeg []) 2 / 10) (rmI (cL ((sk (g0 σ)).getD a.toNatClampNeg []) 2) 10) (cL ((sk (g0 σ)).getD a.toNatClampNeg []) 3) (cL ((sk (g0 σ)).getD a.toNatClampNeg []) 4) 0).map nI) 0, clrW σ) else er (clrW σ) 1
theorem clrW_I {σ : Sg} (h : Ig σ) : Ig (clrW σ) := ⟨h.1.row (i := 12) (by omega) (by simp) (fun w => absurd w (by decide)), h.2⟩
theorem I_check {σ : Sg} (h : Ig σ) (a : Int32) : Ig (sp_check σ a).2 := by
  unfold sp_check
  by_cases g : isK (g0 σ) a
  · rw [if_pos g]; exact clrW_I h
  · rw [if_neg g]; exact (clrW_I h).er 1
theorem R_fuL {N : Nat} {M : Mm} {a b ca cb : Nat} {xs ys : List Int32} (h : Rw M a ca xs) (g : Rw M b cb ys) {m : Nat} (hm : m = Nat.max xs.length ys.length) : ∀ (k i f : Nat), i + k = m → k < f → LX3_firstUnlike_14 N f M a b (nI m) (nI i) = some (fuL (xs.drop i) (ys.drop i) i) := by
  have hx := h.ll.1
  have hy := g.ll.1
  have hm1 : xs.length ≤ m ∧ ys.length ≤ m ∧ (m = xs.length ∨ m = ys.length) := by
    subst hm
    refine ⟨Nat.le_max_left _ _, Nat.le_max_right _ _, ?_⟩
    rcases Nat.le_total xs.length ys.length with z | z
    · exact Or.inr (Nat.max_eq_right z)
    · exact Or.inl (Nat.max_eq_left z)
  intro k
  induction k with
  | zero =>
    intro i f hk hf
    obtain ⟨f, rfl⟩ : ∃ g, f = g + 1 := ⟨f - 1, by omega⟩
    have e : i = m := by omega
    subst e
    show BX3_firstUnlike_14 N (LX3_firstUnlike_14 N f) M a b _ _ = _
    unfold BX3_firstUnlike_14
    rw [if_pos (nI_le (Nat.le_refl _) (by omega)), List.drop_eq_nil_of_le (by omega), List.drop_eq_nil_of_le (by omega)]
    rfl
  | succ k ih =>
    intro i f hk hf
    obtain ⟨f, rfl⟩ : ∃ g, f = g + 1 := ⟨f - 1, by omega⟩
    have q := ih (i + 1) f (by omega) (by omega)
    show BX3_firstUnlike_14 N (LX3_firstUnlike_14 N f) M a b _ _ = _
    unfold BX3_firstUnlike_14
    rw [if_neg (nI_ge (by omega) (by omega))]
    rcases Nat.lt_or_ge i xs.length with z | z
    · rw [R_has1 h z, List.drop_eq_getElem_cons z]
      simp only [Option.bind_some]
      rw [if_neg (by decide)]
      rcases Nat.lt_or_ge i ys.length with y | y
      · rw [R_has1 g y, List.drop_eq_getElem_cons y]
        simp only [Option.bind_some]
        rw [if_neg (by decide), R_at h, R_at g, lg_nI (by omega), lg_nI (by omega), show xs.getD i 0 = xs[i] from by simp [List.getD_eq_getElem?_getD, z], show ys.getD i 0 = ys[i] from by simp [List.getD_eq_getElem?_getD, y], nI_1]
        simp only [Option.bind_some]
        show _ = some (if xs[i] = ys[i] then fuL (xs.drop (i + 1)) (ys.drop (i + 1)) (i + 1) else nI i)
        by_cases w : xs[i] = ys[i]
        · rw [if_pos w, if_pos w]; exact q
        · rw [if_neg w, if_neg w]
      · rw [R_has0 g (by rw [nI_clamp (by omega)]; omega), List.drop_eq_nil_of_le y]
        simp only [Option.bind_some]
        rw [if_pos trivial]
        rfl
    · rw [R_has0 h (by rw [nI_clamp (by omega)]; omega), List.drop_eq_nil_of_le z, List.drop_eq_getElem_cons (show i < ys.length by omega)]
      simp only [Option.bind_some]
      rw [if_pos trivial]
      rfl
theorem R_fu {N : Nat} {M : Mm} {a b ca cb : Nat} {xs ys : List Int32} (h : Rw M a ca xs) (g : Rw M b cb ys) (hN : 2000 ≤ N) : fX3_firstUnlike N M a b = some (fuL xs ys 0) := by
  have h1 := h.1
  have h2 := h.2.1
  have g1 := g.1
  have g2 := g.2.1
  have hm : Nat.max xs.length ys.length ≤ 1000 := Nat.max_le.mpr ⟨by omega, by omega⟩
  have q := R_fuL (N := N) h g (m := Nat.max xs.length ys.length) rfl (Nat.max xs.length ys.length) 0 N (by omega) (by omega)
  simp only [fX3_firstUnlike, h.gC, h.gI, g.gI, C_max, Option.bind_some]
  rw [show mx (nI xs.length) (nI ys.length) = nI (Nat.max xs.length ys.length) from ?_]
  · exact q
  · unfold mx
    by_cases z : xs.length < ys.length
    · rw [if_pos (nI_lt z (by omega)), show Nat.max xs.length ys.length = ys.length from Nat.max_eq_right (by omega)]
    · rw [if_neg (nI_nlt (by omega) (by omega)), show Nat.max xs.length ys.length = xs.length from Nat.max_eq_left (by omega)]
theorem C_check {N : Nat} {M : Mm} {σ : Sg} (h : RelC M σ) (hI : Ig σ) (hN : 2000 ≤ N) (a : Int32) : DoC M (fX10_check N M 0 a) (sp_check σ a) := by
  have hk : (sk (g0 σ)).length ≤ 12 := hI.1.K
  unfold fX10_check sp_check
  simp only [h.c, h.q0, h.q5, h.f12, Option.bind_some]
  by_cases g : isK (g0 σ) a
  · rw [if_pos g]
    obtain ⟨j, hj, rfl⟩ := (wi_n (by omega)).mp g
    rw [nI_clamp (by omega)]
    obtain ⟨q, z1, z2⟩ := C_cnt h hI hj
    obtain ⟨-, -, k1, k2, k3, k4, k5⟩ := hI.1.2.2.2.2.2.2.2 j hj
    generalize (sk (g0 σ)).getD j [] = c at z2 k1 k2 k3 k4 k5 ⊢
    have hq := z2 M h Sm.rf
    obtain ⟨M1, a1, a2, a3, a4, a5⟩ := C_hearQ (N := N) h hI hN (okP_isP hI.1 k2)
    have hq1 := z2 M1 a2 a5
    obtain ⟨M2, b1, b2, b3, b4, b5⟩ := C_drawP (N := N) a2 hI hN a3 (cL c 3)
    have hq2 : CntAt M2 q c := (b5.dy (fun k q => by omega)).2 _ _ hq1
    obtain ⟨M3, c1, c2, c3, c4, c5⟩ := C_mt (N := N) (w := cL c 4) (d := 0) b2 hI hN b4 k4 okD_0
    obtain ⟨M4, d1, d2, d3⟩ := R_clear c2.w12
    have q2 : gQ M3 1 74 2 = some 105 := gQ_ok c2.pr rfl
    rw [z1]
    show DoC M ((gI M 0 q 2).bind _) _
    simp only [hq.i (show 2 < 6 by decide), a1, a2.q5, hq1.i (show 3 < 6 by decide), b1, b2.q5, hq2.i (show 4 < 6 by decide), Option.bind_some]
    rw [c1, bd2_s]
    simp only [c2.q0, c2.f12, c2.q5, q2, R_fu c2.w12 c3 hN, d1, Option.bind_some]
    exact ⟨M4, rfl, c2.u12 d3 d2, a4.trans ((b5.frC (fun k q => by omega)).trans ((c5.frC (fun k q => by omega)).trans (d3.frC (fun k q => by omega))))⟩
  · rw [if_neg g, (C_countingAt h hI a).1 g]
    obtain ⟨M1, d1, d2, d3⟩ := R_clear h.w12
    have R1 : RelC M1 (clrW σ) := h.u12 d3 d2
    show DoC M ((fX3_clear M 28).bind _) _
    rw [d1]
    exact DoC.tr (d3.frC (fun k q => by omega)) (DoC.er R1 1 rfl (by decide))
/-! the tape doesn't ask what waits -/
section CW
variable {S : St} {ys : List Int32}
theorem cw_r (j : Nat) (h : j ≠ 12) : sr (srow S 12 ys) j = sr S j := if_neg h
theorem cw_sh (k : Nat) : shn (srow S 12 ys) k = shn S k := rfl
theorem cw_shf : shn (srow S 12 ys) = shn S := rfl
theorem cw_ah (r s : Nat) : ahd (srow S 12 ys) r s = ahd S r s := rfl
theorem cw_tp (bar : Int32) : ∀ k, tpN (srow S 12 ys) bar k = tpN S bar k
  | 0 => rfl
  | k + 1 => by
    have h := cw_tp bar k
    show (if (sr S 2).getD k 0 = bar then (tpN (srow S 12 ys) bar k).take (lyP ((tpN (srow S 12 ys) bar k).map (shn S)) (shn S k) (tpN (srow S 12 ys) bar k).length) ++ k :: (tpN (srow S 12 ys) bar k).drop (lyP ((tpN (srow S 12 ys) bar k).map (shn S)) (shn S k) (tpN (srow S 12 ys) bar k).length) else tpN (srow S 12 ys) bar k) = _
    rw [h]
    rfl
theorem cw_tape (bar : Int32) : tape (srow S 12 ys) bar = tape S bar := cw_tp bar _
theorem cw_gB (r : Nat) : ∀ k, gpB (srow S 12 ys) r k = gpB S r k
  | 0 => rfl
  | k + 1 => by
    have h := cw_gB r k
    by_cases z : (sr S 2).getD k 0 = (sr S 2).getD r 0 ∧ ahd S k r ∧ ∀ b, gpB S r k = some b → ahd S b k
    · rw [show gpB S r (k + 1) = some k from if_pos z]
      exact if_pos ⟨z.1, z.2.1, fun b hb => z.2.2 b (by rw [← h]; exact hb)⟩
    · rw [show gpB S r (k + 1) = gpB S r k from if_neg z, ← h]
      exact if_neg (fun q => z ⟨q.1, q.2.1, fun b hb => q.2.2 b (by rw [h]; exact hb)⟩)
theorem cw_gap (r : Nat) : gap (srow S 12 ys) r = gap S r := by
  unfold gap
  rw [cw_gB]
  rfl
theorem cw_wy (r : Nat) : wy (srow S 12 ys) r = wy S r := by
  unfold wy
  rw [cw_gap]
  rfl
theorem cw_cnt (l : Int32) (r : Nat) : cnt (srow S 12 ys) l r ↔ cnt S l r := by
  unfold cnt
  rw [cw_wy]
  exact Iff.rfl
theorem cw_ctd (bar l : Int32) : ctd (srow S 12 ys) bar l = ctd S bar l := by
  unfold ctd
  rw [cw_tape]
  congr 1
  funext r
  exact decide_eq_decide.mpr (cw_cnt l r)
theorem cw_metB (b l w d : Int32) (r : Nat) : metB (srow S 12 ys) b l w d r = metB S b l w d r := by
  unfold metB
  rw [cw_ctd]
  rfl
end CW
theorem T_checkL {N : Nat} {M : Mm} {F : Nat → Int32} {A : Nat → Nat → Int32} {σ : Sg} {ws : List Int32} (h : TwAt M F A) (r : TwR F A σ) (hd : RdA A (g0 σ) (sr (g0 σ) 2).length) (hI : Ig σ) (hN : 2000 ≤ N) {j : Nat} (hj : j < (sk (g0 σ)).length) (hw : ws.length ≤ 20) (hwm : ∀ k, k < ws.length → A 0 (462 + k) = ws.getD k 0) {a : Int32} (ha : a = cL ((sk (g0 σ)).getD j []) 2 / 10) : ∀ (k i f m : Nat), i + k = (sr (g0 σ) 2).length → k < f → m ≤ ws.length → LX11_check_50 N f M 137 (nI j) (nI ws.length) a (nI m) (nI i) = some (1 + fuL (ws.drop m) (((((tape (g0 σ) a).drop i).filter (fun r => decide (cnt (g0 σ) (cL ((sk (g0 σ)).getD j []) 3) r))).filter (metB (g0 σ) (rmI (cL ((sk (g0 σ)).getD j []) 2) 10) (cL ((sk (g0 σ)).getD j []) 3) (cL ((sk (g0 σ)).getD j []) 4) 0)).map nI) m, M) := by
  have hl : (sr (g0 σ) 2).length ≤ 96 := hI.1.L 2 (by decide)
  have hT := tape_len (g0 σ) a
  have f1 : fX11_of M 137 (nI j) 1 = some (((sk (g0 σ)).getD j []).getD 2 0) := T_of h r hI.1.K hj (w := 1) (by decide)
  have f2 : fX11_of M 137 (nI j) 2 = some (((sk (g0 σ)).getD j []).getD 3 0) := T_of h r hI.1.K hj (w := 2) (by decide)
  have f3 : fX11_of M 137 (nI j) 3 = some (((sk (g0 σ)).getD j []).getD 4 0) := T_of h r hI.1.K hj (w := 3) (by decide)
  intro k
  induction k with
  | zero =>
    intro i f m hk hf hm
    obtain ⟨f, rfl⟩ : ∃ g, f = g + 1 := ⟨f - 1, by omega⟩
    have e : i = (sr (g0 σ) 2).length := by omega
    subst e
    show BX11_check_50 N (LX11_check_50 N f) M 137 _ _ _ _ _ = _
    unfold BX11_check_50
    simp only [T_q0 h, (T_cnt h r).2.1, Option.bind_some]
    rw [if_pos (nI_le (Nat.le_refl _) (by omega)), List.drop_eq_nil_of_le hT]
    by_cases z : m = ws.length
    · subst z
      rw [if_pos rfl, List.drop_length]
      show some ((0 : Int32), M) = some (1 + fuL [] [] ws.length, M)
      rw [show fuL [] [] ws.length = (-1 : Int32) from rfl, show (1 : Int32) + -1 = 0 from by decide]
    · rw [if_neg (fun q => z ((nI_eq (by omega) (by omega)).mp q)), List.drop_eq_getElem_cons (show m < ws.length by omega)]
      rfl
  | succ k ih =>
    intro i f m hk hf hm
    obtain ⟨f, rfl⟩ : ∃ g, f = g + 1 := ⟨f - 1, by omega⟩
    have q := ih (i + 1) f m (by omega) (by omega) hm
    show BX11_check_50 N (LX11_check_50 N f) M 137 _ _ _ _ _ = _
    unfold BX11_check_50
    simp only [T_q0 h, (T_cnt h r).2.1, T_taped h r hI hN, tpd_tape hI.1 a (show i < 2 ^ 31 by omega), f1, f2, f3, Option.bind_some, nI_1]
    rw [if_neg (nI_ge (by omega) (by omega))]
    rcases Nat.lt_or_ge i (tape (g0 σ) a).length with z | z
    · rw [List.getElem?_eq_getElem z, List.drop_eq_getElem_cons z]
      have mm := mem_tape.mp (List.getElem_mem z)
      generalize (tape (g0 σ) a)[i] = x at mm ⊢
      simp only
      rw [if_neg (nI_pos (by omega)), T_isCounted h r hd hI mm.1, T_isMet h r hd hI hN mm.1]
      simp only [Option.bind_some, gd]
      rw [List.filter_cons]
      by_cases y : cnt (g0 σ) (cL ((sk (g0 σ)).getD j []) 3) x
      · rw [if_pos (show (sr (g0 σ) 2).getD x 0 = a ∧ cnt (g0 σ) (((sk (g0 σ)).getD j []).getD 3 0) x from ⟨mm.2, y⟩), if_pos (decide_eq_true y), List.filter_cons]
        by_cases v : metB (g0 σ) (rmI (cL ((sk (g0 σ)).getD j []) 2) 10) (cL ((sk (g0 σ)).getD j []) 3) (cL ((sk (g0 σ)).getD j []) 4) 0 x = true
        · rw [if_pos (show metB (g0 σ) (rmI (((sk (g0 σ)).getD j []).getD 2 0) 10) (((sk (g0 σ)).getD j []).getD 3 0) (((sk (g0 σ)).getD j []).getD 4 0) 0 x = true from v), if_pos v, List.map_cons]
          by_cases u : m = ws.length
          · subst u
            rw [if_pos rfl, List.drop_length]
            rfl
          · have hm2 : m < ws.length := by omega
            have e1 : aI M 0 138 ((462 : Int32) + nI m) = some (ws.getD m 0) := by
              rw [show (462 : Int32) + nI m = nI (462 + m) from nI_add 462 m, T_m h (by omega), hwm m hm2]
            have e2 : ws.getD m 0 = ws[m] := by simp [List.getD_eq_getElem?_getD, hm2]
            rw [if_neg (fun q => u ((nI_eq (by omega) (by omega)).mp q)), e1, e2, List.drop_eq_getElem_cons hm2]
            have q2 := ih (i + 1) f (m + 1) (by omega) (by omega) (by omega)
            show (if ws[m] = nI x then _ else _) = some (1 + (if ws[m] = nI x then _ else _), M)
            by_cases t : ws[m] = nI x
            · rw [if_pos t, if_pos t]; exact q2
            · rw [if_neg t, if_neg t]
        · rw [if_neg (show ¬ metB (g0 σ) (rmI (((sk (g0 σ)).getD j []).getD 2 0) 10) (((sk (g0 σ)).getD j []).getD 3 0) (((sk (g0 σ)).getD j []).getD 4 0) 0 x = true from v), if_neg v]
          exact q
      · rw [if_neg (show ¬ ((sr (g0 σ) 2).getD x 0 = a ∧ cnt (g0 σ) (((sk (g0 σ)).getD j []).getD 3 0) x) from fun w => y w.2), if_neg (fun w => y (of_decide_eq_true w))]
        exact q
    · rw [List.getElem?_eq_none z]
      simp only
      rw [if_pos (by decide), List.drop_eq_nil_of_le z]
      rw [List.drop_eq_nil_of_le (show (tape (g0 σ) a).length ≤ i + 1 by omega)] at q
      exact q
theorem TwS.clr {f : Nat → Int32} {S : St} (h : TwS f S) (hL : ∀ i, i < 13 → (sr S i).length ≤ rc i) (hk : (sk S).length ≤ 12) : TwS (upd f 7 0) (srow S 12 []) := by
  obtain ⟨⟨c0, c1, c2, c3, c4, c5, c6, c7, c8⟩, h1, h2, h3⟩ := h
  refine ⟨⟨by rw [pk_un (by decide)]; exact c0, by rw [pk_un (by decide)]; exact c1, by rw [pk_un (by decide)]; exact c2, by rw [pk_un (by decide)]; exact c3, by rw [pk_un (by decide)]; exact c4, by rw [pk_un (by decide)]; exact c5, by rw [pk_un (by decide)]; exact c6, pk_us, by rw [pk_un (by decide)]; exact c8⟩, fun i hi j hj => ?_, fun c hc w hw => ?_, fun u hu => (h3 u hu).up (by decide)⟩
  · by_cases e : i = 12
    · subst e
      exact absurd hj (by show ¬ j < 0; omega)
    · rw [sr_row, if_neg e] at hj ⊢
      have b := tix_in i hi j (Nat.lt_of_lt_of_le hj (hL i hi))
      rw [pk_un (by omega)]
      exact h1 i hi j hj
  · rw [pk_un (by omega)]
    exact h2 c hc w hw
theorem T_check {N : Nat} {M : Mm} {σ : Sg} (h : RelT M σ) (hI : Ig σ) (hN : 2000 ≤ N) (a : Int32) : DoT M (fX11_check N M 137 a) (sp_check σ a) := by
  obtain ⟨F, A, k1, k2⟩ := h
  have hk : (sk (g0 σ)).length ≤ 12 := hI.1.K
  have hl : (sr (g0 σ) 2).length ≤ 96 := hI.1.L 2 (by decide)
  have hw : (sr (g0 σ) 12).length ≤ 20 := hI.1.L 12 (by decide)
  have hI' := clrW_I hI
  obtain ⟨M1, a1, a2, a3⟩ := T_mp k1 (j := 7) (by decide) 0
  have t1 : TwR F (u2 A 0 7 0) (clrW σ) := k2.m0 (k2.1.clr hI.1.L hI.1.K) (fun k hk => u2_n hk)
  have R1 : RelT M1 (clrW σ) := ⟨F, _, a2, t1⟩
  have a1' : sI M 0 138 7 0 = some M1 := a1
  unfold fX11_check sp_check
  simp only [T_c k1, T_q0 k1, (T_cnt k1 k2).2.2.2.2.2.2.2.1, a1', T_isCounting a2 t1, Option.bind_some, gd]
  by_cases g : isK (g0 σ) a
  · rw [if_pos (show wi a 0 (nI (sk (g0 (clrW σ))).length - 1) from g), if_pos g]
    obtain ⟨j, hj, rfl⟩ := (wi_n (by omega)).mp g
    rw [nI_clamp (by omega)]
    obtain ⟨M2, A2, b1, b2, b3, b4, b5, b6⟩ := T_readL (N := N) (F := F) hI' hN (sr (g0 (clrW σ)) 2).length 0 N M1 _ (by omega) (by have : (sr (g0 (clrW σ)) 2).length ≤ 96 := hl; omega) a2 t1 (fun r hr => by omega)
    have b1' : fX11_readAll N M1 137 = some M2 := by
      simp only [fX11_readAll, T_c a2, Option.bind_some]
      exact b1
    have f1 : fX11_of M2 137 (nI j) 1 = some (((sk (g0 σ)).getD j []).getD 2 0) := T_of b2 b3 (σ := clrW σ) hk hj (w := 1) (by decide)
    have wm : ∀ k, k < (sr (g0 σ) 12).length → A2 0 (462 + k) = (sr (g0 σ) 12).getD k 0 := by
      intro k hk2
      rw [b6, u2_0, pk_un (by omega)]
      have q := k2.1.2.1 12 (by decide) k hk2
      rw [show tix 12 k = 462 + k from by show 462 + 1 * k = _; omega] at q
      exact q
    have q := T_checkL (N := N) (ws := sr (g0 σ) 12) b2 b3 b4 hI' hN (j := j) hj hw wm (a := cL ((sk (g0 σ)).getD j []) 2 / 10) rfl (sr (g0 (clrW σ)) 2).length 0 N 0 (by omega) (by have : (sr (g0 (clrW σ)) 2).length ≤ 96 := hl; omega) (Nat.zero_le _)
    have em : (((tape (g0 (clrW σ)) (cL ((sk (g0 σ)).getD j []) 2 / 10)).drop 0).filter (fun r => decide (cnt (g0 (clrW σ)) (cL ((sk (g0 (clrW σ))).getD j []) 3) r))).filter (metB (g0 (clrW σ)) (rmI (cL ((sk (g0 (clrW σ))).getD j []) 2) 10) (cL ((sk (g0 (clrW σ))).getD j []) 3) (cL ((sk (g0 (clrW σ))).getD j []) 4) 0) = metL (g0 σ) (cL ((sk (g0 σ)).getD j []) 2 / 10) (rmI (cL ((sk (g0 σ)).getD j []) 2) 10) (cL ((sk (g0 σ)).getD j []) 3) (cL ((sk (g0 σ)).getD j []) 4) 0 := by
      unfold metL
      have e1 : (ctd (srow (g0 σ) 12 []) (cL ((sk (g0 σ)).getD j []) 2 / 10) (cL ((sk (g0 σ)).getD j []) 3)) = ctd (g0 σ) (cL ((sk (g0 σ)).getD j []) 2 / 10) (cL ((sk (g0 σ)).getD j []) 3) := cw_ctd _ _
      rw [← e1]
      show (ctd (srow (g0 σ) 12 []) (cL ((sk (g0 σ)).getD j []) 2 / 10) (cL ((sk (g0 σ)).getD j []) 3)).filter (metB (srow (g0 σ) 12 []) (rmI (cL ((sk (g0 σ)).getD j []) 2) 10) (cL ((sk (g0 σ)).getD j []) 3) (cL ((sk (g0 σ)).getD j []) 4) 0) = _
      congr 1
      funext x
      exact cw_metB _ _ _ _ _
    rw [em] at q
    simp only [b1', f1, Option.bind_some]
    refine ⟨M2, ?_, ⟨F, A2, b2, b3⟩, a3.trans b5⟩
    exact q
  · rw [if_neg (show ¬ wi a 0 (nI (sk (g0 (clrW σ))).length - 1) from g), if_neg g]
    exact DoT.tr a3 (DoT.er R1 hI'.2.2.1 1 rfl (by decide))
