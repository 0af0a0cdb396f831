/-! gives -/
def plV (S : St) (c : List Int32) : Int32 := nI (mt S (cL c 2) (cL c 3) (cL c 4) 0)
def wmV (S : St) (c : List Int32) : Int32 := wmA S (cL c 2) (cL c 3) (cL c 4) (cL c 5) 5 / 5
def twV (S : St) (c : List Int32) : Int32 := nI ((ctd S (rmI (cL c 2) 10) (cL c 3)).countP (twP S (cL c 2 / 10) (cL c 3) (cL c 4)))
def lnV (S : St) (c : List Int32) : Int32 := lnF (lnG S c) 20 ((cL c 3).toNatClampNeg + 50) (lnG S c (cL c 3))
def givV (S : St) (c : List Int32) : Int32 := if cL c 1 = 1 then wmV S c else if cL c 1 = 2 then mx 0 (plV S c - wmV S c) else if cL c 1 = 3 then nI (ctd S (cL c 2 / 10) (cL c 3)).length - plV S c else if cL c 1 = 4 then lnV S c else if cL c 1 = 5 then plV S c + twV S c else if cL c 1 = 6 then nI (mt S (cL c 2) (cL c 3) (cL c 4) (cL c 5)) else if cL c 1 = 7 then nI (mt S (cL c 2) (cL c 3) (cL c 4) (clk S (cL c 2 / 10) - clk S (rmI (cL c 2) 10))) else plV S c
theorem okD_clk {S : St} (hI : Iv S) (a b : Int32) : okD (clk S a - clk S b) := by
  have h1 := hI.ck a
  have h2 := hI.ck b
  unfold ck_ at h1 h2
  have s : (clk S a - clk S b).toInt = (clk S a).toInt - (clk S b).toInt := i_sub (by omega) (by omega)
  exact ⟨by rw [s]; omega, by rw [s]; omega⟩
theorem lnV_start {S : St} (hI : Iv S) {c : List Int32} (hl : wi (cL c 3) 0 999) : lnF (lnG S c) 21 (cL c 3).toNatClampNeg (-96) = lnV S c := by
  obtain ⟨x, hx, ex⟩ := wi_ix (n := 999) (by decide) rfl hl
  unfold lnV
  rw [ex, nI_clamp (by omega)]
  show (if 999 < x then (-96 : Int32) else lnF (lnG S c) 20 (x + 50) (mx (-96) (lnG S c (nI x)))) = _
  rw [if_neg (by omega)]
  congr 1
  have m1 := mt_le hI (cL c 2) (nI x) (cL c 4) 0
  have m2 := mt_le hI (cL c 2) (nI x) (cL c 4) (cL c 5)
  unfold mx
  by_cases z : (-96 : Int32) < lnG S c (nI x)
  · rw [if_pos z]
  · rw [if_neg z]
    have s : (lnG S c (nI x)).toInt = (mt S (cL c 2) (nI x) (cL c 4) 0 : Int) - mt S (cL c 2) (nI x) (cL c 4) (cL c 5) := pk_sub_toInt (by omega) (by omega)
    have e : (-96 : Int32).toInt = -96 := by decide
    rw [i_lt, s, e] at z
    rw [i_eq, s, e]
    omega
theorem C_given {N : Nat} {M : Mm} {σ : Sg} {q : Nat} {c : List Int32} (h : RelC M σ) (hI : Ig σ) (hN : 2000 ≤ N) (hp : HrP M (g0 σ) (cL c 2 / 10) (rmI (cL c 2) 10)) (hq : CntAt M q c) (hl : wi (cL c 3) 0 999) (hw : wi (cL c 4) 0 50) (hD : wi (cL c 5) 1 999) : ∃ M', fX1_given N M 74 q (clk (g0 σ) (cL c 2 / 10) - clk (g0 σ) (rmI (cL c 2) 10)) = some (givV (g0 σ) c, M') ∧ RelC M' σ ∧ FrC M M' := by
  obtain ⟨M1, a1, a2, a3, a4, a5⟩ := C_drawP (N := N) h hI hN hp (cL c 3)
  have q1 : CntAt M1 q c := (a5.dy (fun k q => by omega)).2 _ _ hq
  have p1 : PrC M1 σ q c (cL c 3) := ⟨a2, a4, q1⟩
  have f1 : FrC M M1 := a5.frC (fun k q => by omega)
  have pl := fun d (hd : okD d) => C_mtC (N := N) (w := cL c 4) (d := d) p1 hI hN hw hd
  have q0 : gQ M1 1 74 0 = some 75 := gQ_ok a2.pr rfl
  have q4 : gQ M1 7 75 4 = some 84 := gQ_ok (a2.tpA (t := 75) (Or.inl rfl)).1 rfl
  have w4 : Rw M1 84 96 ((ctd (g0 σ) (cL c 2 / 10) (cL c 3)).map nI) := a4.1.1
  unfold fX1_given
  simp only [gC_ok h.pr, hq.i (show 3 < 6 by decide), a1, q1.i (show 4 < 6 by decide), q1.i (show 1 < 6 by decide), q1.i (show 5 < 6 by decide), q0, q4, R_size w4, Option.bind_some, List.length_map]
  unfold givV
  by_cases z1 : cL c 1 = 1
  · rw [if_pos z1, if_pos z1]
    obtain ⟨M2, b1, b2, b3⟩ := C_warm (N := N) p1 hI hN hw hD
    exact ⟨M2, by rw [b1]; rfl, b2.1, f1.trans (b3.frC (fun k q => by omega))⟩
  rw [if_neg z1, if_neg z1]
  by_cases z2 : cL c 1 = 2
  · rw [if_pos z2, if_pos z2]
    obtain ⟨M2, b1, b2, b3⟩ := pl 0 okD_0
    obtain ⟨M3, c1, c2, c3⟩ := C_warm (N := N) b2 hI hN hw hD
    refine ⟨M3, ?_, c2.1, f1.trans ((b3.trans c3).frC (fun k q => by omega))⟩
    rw [b1, bd2_s, c1, bd2_s, C_max]
    rfl
  rw [if_neg z2, if_neg z2]
  by_cases z3 : cL c 1 = 3
  · rw [if_pos z3, if_pos z3]
    obtain ⟨M2, b1, b2, b3⟩ := pl 0 okD_0
    exact ⟨M2, by rw [b1]; rfl, b2.1, f1.trans (b3.frC (fun k q => by omega))⟩
  rw [if_neg z3, if_neg z3]
  by_cases z4 : cL c 1 = 4
  · rw [if_pos z4, if_pos z4]
    obtain ⟨x, hx, ex⟩ := wi_ix (n := 999) (by decide) rfl hl
    obtain ⟨M2, b1, b2, b3, b4⟩ := C_linedL (N := N) (q := q) (c := c) hI hN hw hD 21 x N M1 (-96) (by omega) (by omega) (by omega) a2 a3 q1
    refine ⟨M2, ?_, b2, f1.trans b3⟩
    have e := lnV_start hI.1 hl
    rw [ex, nI_clamp (by omega)] at e
    simp only [fX1_lined, gC_ok a2.pr, q1.i (show 3 < 6 by decide), Option.bind_some]
    rw [show c.getD 3 0 = nI x from ex, b1, e]
    rfl
  rw [if_neg z4, if_neg z4]
  by_cases z5 : cL c 1 = 5
  · rw [if_pos z5, if_pos z5]
    obtain ⟨M2, b1, b2, b3⟩ := pl 0 okD_0
    refine ⟨M2, ?_, b2.1, f1.trans (b3.frC (fun k q => by omega))⟩
    rw [b1, bd2_s, C_nearTwo b2.1 hI hN b2.2.1 hw]
    rfl
  rw [if_neg z5, if_neg z5]
  by_cases z6 : cL c 1 = 6
  · rw [if_pos z6, if_pos z6]
    obtain ⟨M2, b1, b2, b3⟩ := pl (cL c 5) (okD_s hD)
    exact ⟨M2, by rw [b1]; rfl, b2.1, f1.trans (b3.frC (fun k q => by omega))⟩
  rw [if_neg z6, if_neg z6]
  by_cases z7 : cL c 1 = 7
  · rw [if_pos z7, if_pos z7]
    obtain ⟨M2, b1, b2, b3⟩ := pl (clk (g0 σ) (cL c 2 / 10) - clk (g0 σ) (rmI (cL c 2) 10)) (okD_clk hI.1 _ _)
    exact ⟨M2, by rw [b1]; rfl, b2.1, f1.trans (b3.frC (fun k q => by omega))⟩
  rw [if_neg z7, if_neg z7]
  obtain ⟨M2, b1, b2, b3⟩ := pl 0 okD_0
  exact ⟨M2, by rw [b1]; rfl, b2.1, f1.trans (b3.frC (fun k q => by omega))⟩
abbrev isK (S : St) (a : Int32) : Prop := wi a 0 (nI (sk S).length - 1)
def sp_gives (σ : Sg) (a : Int32) : An := if isK (g0 σ) a then (givV (g0 σ) ((sk (g0 σ)).getD a.toNatClampNeg []), σ) else er σ 1
theorem I_gives {σ : Sg} (h : Ig σ) (a : Int32) : Ig (sp_gives σ a).2 := by
  unfold sp_gives
  by_cases g : isK (g0 σ) a
  · rw [if_pos g]; exact h
  · rw [if_neg g]; exact h.er 1
theorem C_gives {N : Nat} {M : Mm} {σ : Sg} (h : RelC M σ) (hI : Ig σ) (hN : 2000 ≤ N) (a : Int32) : DoC M (fX10_gives N M 0 a) (sp_gives σ a) := by
  have J := DoC.er h (a := 1) 1 rfl (by decide)
  have hk : (sk (g0 σ)).length ≤ 12 := hI.1.K
  unfold fX10_gives sp_gives
  simp only [h.c, h.q0, h.q5, Option.bind_some]
  by_cases g : isK (g0 σ) a
  · rw [if_pos g]
    obtain ⟨j, hj, rfl⟩ := (wi_n (by omega)).mp g
    rw [nI_clamp (by omega)]
    obtain ⟨q, z1, z2⟩ := C_cnt h hI hj
    obtain ⟨-, -, k1, k2, k3, k4, k5⟩ := hI.1.2.2.2.2.2.2.2 j hj
    generalize (sk (g0 σ)).getD j [] = c at z2 k1 k2 k3 k4 k5 ⊢
    have hq := z2 M h Sm.rf
    obtain ⟨M1, a1, a2, a3, a4, a5⟩ := C_hearQ (N := N) h hI hN (okP_isP hI.1 k2)
    have hq1 := z2 M1 a2 a5
    obtain ⟨M2, b1, b2, b3⟩ := C_given (N := N) a2 hI hN a3 hq1 k3 k4 k5
    rw [z1]
    show DoC M ((gI M 0 q 2).bind _) _
    simp only [hq.i (show 2 < 6 by decide), a1, a2.q5, a2.q0, hq1.i (show 2 < 6 by decide), N_clock a2.2.1, Option.bind_some]
    rw [b1, bd2_s]
    exact ⟨M2, rfl, b2, a4.trans b3⟩
  · rw [if_neg g, (C_countingAt h hI a).1 g]
    exact J
/-! in the reference -/
section TG
variable {N : Nat} {M : Mm} {F : Nat → Int32} {A : Nat → Nat → Int32} {σ : Sg}
theorem T_slid (h : TwAt M F A) (r : TwR F A σ) (hd : RdA A (g0 σ) (sr (g0 σ) 2).length) (hI : Ig σ) (hN : 2000 ≤ N) {j : Nat} (hj : j < (sk (g0 σ)).length) (l d : Int32) : fX11_slid N M 137 (nI j) l d = some (nI (mt (g0 σ) (cL ((sk (g0 σ)).getD j []) 2) l (cL ((sk (g0 σ)).getD j []) 4) d)) := by
  have f1 : fX11_of M 137 (nI j) 1 = some (((sk (g0 σ)).getD j []).getD 2 0) := T_of h r hI.1.K hj (w := 1) (by decide)
  have f3 : fX11_of M 137 (nI j) 3 = some (((sk (g0 σ)).getD j []).getD 4 0) := T_of h r hI.1.K hj (w := 3) (by decide)
  simp only [fX11_slid, T_c h, f1, f3, T_met h r hd hI hN, Option.bind_some]
theorem T_plain (h : TwAt M F A) (r : TwR F A σ) (hd : RdA A (g0 σ) (sr (g0 σ) 2).length) (hI : Ig σ) (hN : 2000 ≤ N) {j : Nat} (hj : j < (sk (g0 σ)).length) : fX11_plain N M 137 (nI j) = some (plV (g0 σ) ((sk (g0 σ)).getD j [])) := by
  have f2 : fX11_of M 137 (nI j) 2 = some (((sk (g0 σ)).getD j []).getD 3 0) := T_of h r hI.1.K hj (w := 2) (by decide)
  simp only [fX11_plain, T_c h, f2, T_slid h r hd hI hN hj, Option.bind_some, plV]
theorem T_warmL (h : TwAt M F A) (r : TwR F A σ) (hd : RdA A (g0 σ) (sr (g0 σ) 2).length) (hI : Ig σ) (hN : 2000 ≤ N) {j : Nat} (hj : j < (sk (g0 σ)).length) : ∀ (k i f : Nat), i + k = 5 → k < f → LX11_warm_4 N f M 137 (nI j) (wmA (g0 σ) (cL ((sk (g0 σ)).getD j []) 2) (cL ((sk (g0 σ)).getD j []) 3) (cL ((sk (g0 σ)).getD j []) 4) (cL ((sk (g0 σ)).getD j []) 5) i) (nI (i + 1)) = some (wmV (g0 σ) ((sk (g0 σ)).getD j [])) := by
  have f2 : fX11_of M 137 (nI j) 2 = some (((sk (g0 σ)).getD j []).getD 3 0) := T_of h r hI.1.K hj (w := 2) (by decide)
  have f4 : fX11_of M 137 (nI j) 4 = some (((sk (g0 σ)).getD j []).getD 5 0) := T_of h r hI.1.K hj (w := 4) (by decide)
  intro k
  induction k with
  | zero =>
    intro i f hk hf
    obtain ⟨f, rfl⟩ : ∃ g, f = g + 1 := ⟨f - 1, by omega⟩
    have e : i = 5 := by omega
    subst e
    show BX11_warm_4 N (LX11_warm_4 N f) M 137 _ _ _ = _
    unfold BX11_warm_4
    rw [if_pos (by decide)]
    rfl
  | succ k ih =>
    intro i f hk hf
    obtain ⟨f, rfl⟩ : ∃ g, f = g + 1 := ⟨f - 1, by omega⟩
    have q := ih (i + 1) f (by omega) (by omega)
    show BX11_warm_4 N (LX11_warm_4 N f) M 137 _ _ _ = _
    unfold BX11_warm_4
    simp only [f2, f4, T_slid h r hd hI hN hj, Option.bind_some, nI_1]
    rw [if_neg (show ¬ (6 : Int32) ≤ nI (i + 1) from nI_ge (b := 6) (by omega) (by decide))]
    exact q
theorem T_warm (h : TwAt M F A) (r : TwR F A σ) (hd : RdA A (g0 σ) (sr (g0 σ) 2).length) (hI : Ig σ) (hN : 2000 ≤ N) {j : Nat} (hj : j < (sk (g0 σ)).length) : fX11_warm N M 137 (nI j) = some (wmV (g0 σ) ((sk (g0 σ)).getD j [])) := by
  have q := T_warmL (N := N) h r hd hI hN hj 5 0 N (by omega) (by omega)
  simp only [fX11_warm, T_c h, Option.bind_some]
  exact q
theorem T_countedL (h : TwAt M F A) (r : TwR F A σ) (hd : RdA A (g0 σ) (sr (g0 σ) 2).length) (hI : Ig σ) {bar l : Int32} : ∀ (k i f : Nat), i + k = (sr (g0 σ) 2).length → k < f → LX11_counted_5 N f M 137 bar l (nI ((List.range i).countP (fun r => decide ((sr (g0 σ) 2).getD r 0 = bar ∧ cnt (g0 σ) l r) && true))) (nI i) = some (nI (ctd (g0 σ) bar l).length) := by
  have hl : (sr (g0 σ) 2).length ≤ 96 := hI.1.L 2 (by decide)
  intro k
  induction k with
  | zero =>
    intro i f hk hf
    obtain ⟨f, rfl⟩ : ∃ g, f = g + 1 := ⟨f - 1, by omega⟩
    have e : i = (sr (g0 σ) 2).length := by omega
    subst e
    show BX11_counted_5 N (LX11_counted_5 N f) M 137 _ _ _ _ = _
    unfold BX11_counted_5
    simp only [T_q0 h, (T_cnt h r).2.1, Option.bind_some]
    rw [if_pos (nI_le (Nat.le_refl _) (by omega)), ← ctd_cnt (g0 σ) bar l (fun _ => true)]
    rw [show (ctd (g0 σ) bar l).countP (fun _ => true) = (ctd (g0 σ) bar l).length from List.countP_eq_length.mpr (fun _ _ => rfl)]
  | succ k ih =>
    intro i f hk hf
    obtain ⟨f, rfl⟩ : ∃ g, f = g + 1 := ⟨f - 1, by omega⟩
    have hi : i < (sr (g0 σ) 2).length := by omega
    have q := ih (i + 1) f (by omega) (by omega)
    rw [cP_s] at q
    show BX11_counted_5 N (LX11_counted_5 N f) M 137 _ _ _ _ = _
    unfold BX11_counted_5
    simp only [T_q0 h, (T_cnt h r).2.1, T_isCounted h r hd hI hi, Option.bind_some, gd, nI_1, Int32.add_zero]
    rw [if_neg (nI_ge hi (by omega))]
    by_cases z : (sr (g0 σ) 2).getD i 0 = bar ∧ cnt (g0 σ) l i
    · rw [if_pos z]
      rw [if_pos (by rw [decide_eq_true z]; rfl)] at q
      exact q
    · rw [if_neg z]
      rw [if_neg (by rw [decide_eq_false z]; decide)] at q
      exact q
theorem T_counted (h : TwAt M F A) (r : TwR F A σ) (hd : RdA A (g0 σ) (sr (g0 σ) 2).length) (hI : Ig σ) (hN : 2000 ≤ N) (bar l : Int32) : fX11_counted N M 137 bar l = some (nI (ctd (g0 σ) bar l).length) := by
  have hl : (sr (g0 σ) 2).length ≤ 96 := hI.1.L 2 (by decide)
  have q := T_countedL (N := N) h r hd hI (bar := bar) (l := l) (sr (g0 σ) 2).length 0 N (by omega) (by omega)
  simp only [fX11_counted, T_c h, Option.bind_some]
  exact q
theorem T_linedL (h : TwAt M F A) (r : TwR F A σ) (hd : RdA A (g0 σ) (sr (g0 σ) 2).length) (hI : Ig σ) (hN : 2000 ≤ N) {j : Nat} (hj : j < (sk (g0 σ)).length) : ∀ (k x f : Nat) (b : Int32), 999 < x + 50 * k → x < 100000 → k < f → LX11_lined_41 N f M 137 (nI j) b (nI x) = some (lnF (lnG (g0 σ) ((sk (g0 σ)).getD j [])) k x b) := by
  have f4 : fX11_of M 137 (nI j) 4 = some (((sk (g0 σ)).getD j []).getD 5 0) := T_of h r hI.1.K hj (w := 4) (by decide)
  intro k
  induction k with
  | zero =>
    intro x f b hk hx hf
    obtain ⟨f, rfl⟩ : ∃ g, f = g + 1 := ⟨f - 1, by omega⟩
    show BX11_lined_41 N (LX11_lined_41 N f) M 137 _ _ _ = _
    unfold BX11_lined_41
    rw [if_pos (show (1000 : Int32) ≤ nI x from nI_le (a := 1000) (by omega) (by omega))]
    rfl
  | succ k ih =>
    intro x f b hk hx hf
    obtain ⟨f, rfl⟩ : ∃ g, f = g + 1 := ⟨f - 1, by omega⟩
    show BX11_lined_41 N (LX11_lined_41 N f) M 137 _ _ _ = some (if 999 < x then b else lnF (lnG (g0 σ) ((sk (g0 σ)).getD j [])) k (x + 50) (mx b (lnG (g0 σ) ((sk (g0 σ)).getD j []) (nI x))))
    unfold BX11_lined_41
    by_cases z : 999 < x
    · rw [if_pos (show (1000 : Int32) ≤ nI x from nI_le (a := 1000) (by omega) (by omega)), if_pos z]
    · rw [if_neg (show ¬ (1000 : Int32) ≤ nI x from nI_ge (b := 1000) (by omega) (by decide)), if_neg z]
      simp only [f4, T_slid h r hd hI hN hj, Option.bind_some, show nI x + 50 = nI (x + 50) from nI_add x 50]
      have q := ih (x + 50) f (mx b (lnG (g0 σ) ((sk (g0 σ)).getD j []) (nI x))) (by omega) (by omega) (by omega)
      change (if lnG (g0 σ) ((sk (g0 σ)).getD j []) (nI x) ≤ b then LX11_lined_41 N f M 137 (nI j) b (nI (x + 50)) else LX11_lined_41 N f M 137 (nI j) (lnG (g0 σ) ((sk (g0 σ)).getD j []) (nI x)) (nI (x + 50))) = _
      unfold mx at q ⊢
      by_cases y : b < lnG (g0 σ) ((sk (g0 σ)).getD j []) (nI x)
      · rw [if_pos y] at q ⊢
        rw [if_neg (Int32.not_le.mpr y)]
        exact q
      · rw [if_neg y] at q ⊢
        rw [if_pos (Int32.not_lt.mp y)]
        exact q
theorem T_lined (h : TwAt M F A) (r : TwR F A σ) (hd : RdA A (g0 σ) (sr (g0 σ) 2).length) (hI : Ig σ) (hN : 2000 ≤ N) {j : Nat} (hj : j < (sk (g0 σ)).length) : fX11_lined N M 137 (nI j) = some (lnV (g0 σ) ((sk (g0 σ)).getD j [])) := by
  have f2 : fX11_of M 137 (nI j) 2 = some (((sk (g0 σ)).getD j []).getD 3 0) := T_of h r hI.1.K hj (w := 2) (by decide)
  have f4 : fX11_of M 137 (nI j) 4 = some (((sk (g0 σ)).getD j []).getD 5 0) := T_of h r hI.1.K hj (w := 4) (by decide)
  obtain ⟨-, -, k1, k2, k3, k4, k5⟩ := hI.1.2.2.2.2.2.2.2 j hj
  obtain ⟨x, hx, ex⟩ := wi_ix (n := 999) (by decide) rfl k3
  have q := T_linedL (N := N) h r hd hI hN hj 20 (x + 50) N (lnG (g0 σ) ((sk (g0 σ)).getD j []) (nI x)) (by omega) (by omega) (by omega)
  simp only [fX11_lined, T_c h, f2, f4, T_slid h r hd hI hN hj, Option.bind_some]
  unfold lnV
  rw [show cL ((sk (g0 σ)).getD j []) 3 = nI x from ex, nI_clamp (by omega), show ((sk (g0 σ)).getD j []).getD 3 0 = nI x from ex, show nI x + 50 = nI (x + 50) from nI_add x 50]
  exact q
theorem T_twI {K : Mm → Nat → Int32 → Int32 → Int32 → Int32 → Int32 → Option Int32} (h : TwAt M F A) (r : TwR F A σ) (hd : RdA A (g0 σ) (sr (g0 σ) 2).length) (hI : Ig σ) {j o : Nat} (hj : j < (sk (g0 σ)).length) (ho : o < (sr (g0 σ) 2).length) {a b n : Int32} : ∀ (k i f : Nat), i + k = (sr (g0 σ) 2).length → k < f → LX11_twice_62 N K f M 137 (nI j) a b n (nI o) (nI ((List.range i).countP (fun r => decide ((sr (g0 σ) 2).getD r 0 = a ∧ cnt (g0 σ) (cL ((sk (g0 σ)).getD j []) 3) r) && decide (¬ cL ((sk (g0 σ)).getD j []) 4 < ab (shn (g0 σ) r - shn (g0 σ) o))))) (nI i) = K M 137 (nI j) a b (n + if twP (g0 σ) a (cL ((sk (g0 σ)).getD j []) 3) (cL ((sk (g0 σ)).getD j []) 4) o = true then 1 else 0) (nI (o + 1)) := by
  have hl : (sr (g0 σ) 2).length ≤ 96 := hI.1.L 2 (by decide)
  have f2 : fX11_of M 137 (nI j) 2 = some (((sk (g0 σ)).getD j []).getD 3 0) := T_of h r hI.1.K hj (w := 2) (by decide)
  have f3 : fX11_of M 137 (nI j) 3 = some (((sk (g0 σ)).getD j []).getD 4 0) := T_of h r hI.1.K hj (w := 3) (by decide)
  have r4 : gQ M 11 137 4 = some 141 := T_ref h rfl
  have sh : ∀ y, y < (sr (g0 σ) 2).length → aI M 0 141 (nI y) = some (shn (g0 σ) y) := fun y hy => by
    rw [← (hd y hy).1]; exact T_get h 3 (by decide) (show y < 96 by omega)
  intro k
  induction k with
  | zero =>
    intro i f hk hf
    obtain ⟨f, rfl⟩ : ∃ g, f = g + 1 := ⟨f - 1, by omega⟩
    have e : i = (sr (g0 σ) 2).length := by omega
    subst e
    show BX11_twice_62 N K (LX11_twice_62 N K f) M 137 _ _ _ _ _ _ _ = _
    unfold BX11_twice_62
    simp only [T_q0 h, (T_cnt h r).2.1, Option.bind_some, nI_1]
    rw [if_pos (nI_le (Nat.le_refl _) (by omega))]
    unfold twP
    rw [ctd_cnt]
    have le := cP_le (fun r => decide ((sr (g0 σ) 2).getD r 0 = a ∧ cnt (g0 σ) (cL ((sk (g0 σ)).getD j []) 3) r) && decide (¬ cL ((sk (g0 σ)).getD j []) 4 < ab (shn (g0 σ) r - shn (g0 σ) o))) (sr (g0 σ) 2).length
    generalize (List.range (sr (g0 σ) 2).length).countP (fun r => decide ((sr (g0 σ) 2).getD r 0 = a ∧ cnt (g0 σ) (cL ((sk (g0 σ)).getD j []) 3) r) && decide (¬ cL ((sk (g0 σ)).getD j []) 4 < ab (shn (g0 σ) r - shn (g0 σ) o))) = C at le ⊢
    by_cases z : 1 < C
    · rw [if_neg (show ¬ nI C ≤ 1 from nI_ge (a := 1) z (by omega)), if_pos (decide_eq_true z)]
    · rw [if_pos (show nI C ≤ 1 from nI_le (b := 1) (by omega) (by decide)), if_neg (fun q => z (of_decide_eq_true q))]
  | succ k ih =>
    intro i f hk hf
    obtain ⟨f, rfl⟩ : ∃ g, f = g + 1 := ⟨f - 1, by omega⟩
    have hi : i < (sr (g0 σ) 2).length := by omega
    have q := ih (i + 1) f (by omega) (by omega)
    rw [cP_s] at q
    show BX11_twice_62 N K (LX11_twice_62 N K f) M 137 _ _ _ _ _ _ _ = _
    unfold BX11_twice_62
    simp only [T_q0 h, (T_cnt h r).2.1, f2, f3, r4, sh i hi, sh o ho, T_size, T_isCounted h r hd hI hi, Option.bind_some, gd, nI_1, Int32.add_zero]
    rw [if_neg (nI_ge hi (by omega))]
    by_cases z : (sr (g0 σ) 2).getD i 0 = a ∧ cnt (g0 σ) (cL ((sk (g0 σ)).getD j []) 3) i
    · rw [if_pos z]
      by_cases y : cL ((sk (g0 σ)).getD j []) 4 < ab (shn (g0 σ) i - shn (g0 σ) o)
      · rw [if_pos y]
        rw [if_neg (by rw [show decide (¬ cL ((sk (g0 σ)).getD j []) 4 < ab (shn (g0 σ) i - shn (g0 σ) o)) = false from decide_eq_false (fun w => w y), Bool.and_false]; decide)] at q
        exact q
      · rw [if_neg y]
        rw [if_pos (by rw [decide_eq_true z, decide_eq_true y]; rfl)] at q
        exact q
    · rw [if_neg z]
      rw [if_neg (by rw [decide_eq_false z, Bool.false_and]; decide)] at q
      exact q
theorem T_twL (h : TwAt M F A) (r : TwR F A σ) (hd : RdA A (g0 σ) (sr (g0 σ) 2).length) (hI : Ig σ) (hN : 2000 ≤ N) {j : Nat} (hj : j < (sk (g0 σ)).length) {a b : Int32} : ∀ (k i f : Nat), i + k = (sr (g0 σ) 2).length → k < f → LX11_twice_26 N f M 137 (nI j) a b (nI ((List.range i).countP (fun r => decide ((sr (g0 σ) 2).getD r 0 = b ∧ cnt (g0 σ) (cL ((sk (g0 σ)).getD j []) 3) r) && twP (g0 σ) a (cL ((sk (g0 σ)).getD j []) 3) (cL ((sk (g0 σ)).getD j []) 4) r))) (nI i) = some (nI ((ctd (g0 σ) b (cL ((sk (g0 σ)).getD j []) 3)).countP (twP (g0 σ) a (cL ((sk (g0 σ)).getD j []) 3) (cL ((sk (g0 σ)).getD j []) 4)))) := by
  have hl : (sr (g0 σ) 2).length ≤ 96 := hI.1.L 2 (by decide)
  have f2 : fX11_of M 137 (nI j) 2 = some (((sk (g0 σ)).getD j []).getD 3 0) := T_of h r hI.1.K hj (w := 2) (by decide)
  intro k
  induction k with
  | zero =>
    intro i f hk hf
    obtain ⟨f, rfl⟩ : ∃ g, f = g + 1 := ⟨f - 1, by omega⟩
    have e : i = (sr (g0 σ) 2).length := by omega
    subst e
    show BX11_twice_26 N (LX11_twice_26 N f) M 137 _ _ _ _ _ = _
    unfold BX11_twice_26
    simp only [T_q0 h, (T_cnt h r).2.1, Option.bind_some]
    rw [if_pos (nI_le (Nat.le_refl _) (by omega)), ctd_cnt]
  | succ k ih =>
    intro i f hk hf
    obtain ⟨f, rfl⟩ : ∃ g, f = g + 1 := ⟨f - 1, by omega⟩
    have hi : i < (sr (g0 σ) 2).length := by omega
    have q := ih (i + 1) f (by omega) (by omega)
    rw [cP_s] at q
    have w := T_twI (N := N) (K := LX11_twice_26 N f) h r hd hI hj hi (a := a) (b := b) (n := nI ((List.range i).countP (fun r => decide ((sr (g0 σ) 2).getD r 0 = b ∧ cnt (g0 σ) (cL ((sk (g0 σ)).getD j []) 3) r) && twP (g0 σ) a (cL ((sk (g0 σ)).getD j []) 3) (cL ((sk (g0 σ)).getD j []) 4) r))) (sr (g0 σ) 2).length 0 N (by omega) (by omega)
    show BX11_twice_26 N (LX11_twice_26 N f) M 137 _ _ _ _ _ = _
    unfold BX11_twice_26
    simp only [T_q0 h, (T_cnt h r).2.1, f2, T_isCounted h r hd hI hi, Option.bind_some, gd, nI_1]
    rw [if_neg (nI_ge hi (by omega))]
    by_cases z : (sr (g0 σ) 2).getD i 0 = b ∧ cnt (g0 σ) (cL ((sk (g0 σ)).getD j []) 3) i
    · rw [if_pos z]
      rw [decide_eq_true z, Bool.true_and] at q
      refine w.trans ?_
      by_cases y : twP (g0 σ) a (cL ((sk (g0 σ)).getD j []) 3) (cL ((sk (g0 σ)).getD j []) 4) i = true
      · rw [if_pos y] at q ⊢
        rw [nI_1]; exact q
      · rw [if_neg y] at q ⊢
        rw [Int32.add_zero]; exact q
    · rw [if_neg z]
      rw [if_neg (by rw [decide_eq_false z, Bool.false_and]; decide)] at q
      exact q
theorem T_twice (h : TwAt M F A) (r : TwR F A σ) (hd : RdA A (g0 σ) (sr (g0 σ) 2).length) (hI : Ig σ) (hN : 2000 ≤ N) {j : Nat} (hj : j < (sk (g0 σ)).length) : fX11_twice N M 137 (nI j) = some (twV (g0 σ) ((sk (g0 σ)).getD j [])) := by
  have hl : (sr (g0 σ) 2).length ≤ 96 := hI.1.L 2 (by decide)
  have f1 : fX11_of M 137 (nI j) 1 = some (((sk (g0 σ)).getD j []).getD 2 0) := T_of h r hI.1.K hj (w := 1) (by decide)
  have q := T_twL (N := N) h r hd hI hN hj (a := cL ((sk (g0 σ)).getD j []) 2 / 10) (b := rmI (cL ((sk (g0 σ)).getD j []) 2) 10) (sr (g0 σ) 2).length 0 N (by omega) (by omega)
  simp only [fX11_twice, T_c h, f1, Option.bind_some]
  exact q
end TG
theorem T_gives {N : Nat} {M : Mm} {σ : Sg} (h : RelT M σ) (hI : Ig σ) (hN : 2000 ≤ N) (a : Int32) : DoT M (fX11_gives N M 137 a) (sp_gives σ a) := by
  obtain ⟨F, A, k1, k2⟩ := id h
  have J := DoT.er h hI.2.2.1 (a := 1) 1 rfl (by decide)
  have hk : (sk (g0 σ)).length ≤ 12 := hI.1.K
  unfold fX11_gives sp_gives
  simp only [T_c k1, T_isCounting k1 k2, Option.bind_some, gd]
  by_cases g : isK (g0 σ) a
  · rw [if_pos g, if_pos g]
    obtain ⟨j, hj, rfl⟩ := (wi_n (by omega)).mp g
    rw [nI_clamp (by omega)]
    obtain ⟨M1, F1, A1, a1, a2, a3, a4, a5⟩ := T_readAll (N := N) h hI hN
    have f0 : fX11_of M1 137 (nI j) 0 = some (((sk (g0 σ)).getD j []).getD 1 0) := T_of a2 a3 hI.1.K hj (w := 0) (by decide)
    have f1 : fX11_of M1 137 (nI j) 1 = some (((sk (g0 σ)).getD j []).getD 2 0) := T_of a2 a3 hI.1.K hj (w := 1) (by decide)
    have f2 : fX11_of M1 137 (nI j) 2 = some (((sk (g0 σ)).getD j []).getD 3 0) := T_of a2 a3 hI.1.K hj (w := 2) (by decide)
    have f4 : fX11_of M1 137 (nI j) 4 = some (((sk (g0 σ)).getD j []).getD 5 0) := T_of a2 a3 hI.1.K hj (w := 4) (by decide)
    obtain ⟨-, -, c1, c2, c3, c4, c5⟩ := hI.1.2.2.2.2.2.2.2 j hj
    obtain ⟨x, y, hx, hy, -, ex, ey⟩ := isP_n hI.1 (okP_isP hI.1 c2)
    have u1 : fX11_clockOf M1 137 (((sk (g0 σ)).getD j []).getD 2 0 / 10) = some (clk (g0 σ) (cL ((sk (g0 σ)).getD j []) 2 / 10)) := by
      show fX11_clockOf M1 137 (cL ((sk (g0 σ)).getD j []) 2 / 10) = _
      rw [ex]; exact T_clk a2 a3 hI hx
    have u2 : fX11_clockOf M1 137 (rmI (((sk (g0 σ)).getD j []).getD 2 0) 10) = some (clk (g0 σ) (rmI (cL ((sk (g0 σ)).getD j []) 2) 10)) := by
      show fX11_clockOf M1 137 (rmI (cL ((sk (g0 σ)).getD j []) 2) 10) = _
      rw [ey]; exact T_clk a2 a3 hI hy
    have R1 : RelT M1 σ := ⟨F1, A1, a2, a3⟩
    simp only [a1, f0, f1, f2, f4, u1, u2, T_plain a2 a3 a4 hI hN hj, T_warm a2 a3 a4 hI hN hj, T_counted a2 a3 a4 hI hN, T_lined a2 a3 a4 hI hN hj, T_twice a2 a3 a4 hI hN hj, T_slid a2 a3 a4 hI hN hj, Option.bind_some]
    apply DoT.tr a5
    obtain ⟨k, hk7, ek⟩ := wi_ix (n := 7) (by decide) rfl c1
    unfold givV
    rw [show cL ((sk (g0 σ)).getD j []) 1 = nI k from ek, ek]
    match k, hk7 with
    | 0, _ => rw [if_pos (by decide), if_neg (by decide), if_neg (by decide), if_neg (by decide), if_neg (by decide), if_neg (by decide), if_neg (by decide), if_neg (by decide)]; exact DoT.same R1
    | 1, _ => rw [if_neg (by decide), if_pos (by decide), if_pos (by decide)]; exact DoT.same R1
    | 2, _ =>
      rw [if_neg (by decide), if_neg (by decide), if_pos (by decide), if_neg (show ¬ nI 2 = (1 : Int32) by decide), if_pos (show nI 2 = (2 : Int32) by decide)]
      unfold mx
      by_cases z : 0 < plV (g0 σ) ((sk (g0 σ)).getD j []) - wmV (g0 σ) ((sk (g0 σ)).getD j [])
      · rw [if_neg (Int32.not_le.mpr z), if_pos z]; exact DoT.same R1
      · rw [if_pos (Int32.not_lt.mp z), if_neg z]; exact DoT.same R1
    | 3, _ => rw [if_neg (by decide), if_neg (by decide), if_neg (by decide), if_pos (by decide), if_neg (by decide), if_neg (by decide), if_pos (by decide)]; exact DoT.same R1
    | 4, _ => rw [if_neg (by decide), if_neg (by decide), if_neg (by decide), if_neg (by decide), if_pos (by decide), if_neg (by decide), if_neg (by decide), if_neg (by decide), if_pos (by decide)]; exact DoT.same R1
    | 5, _ => rw [if_neg (by decide), if_neg (by decide), if_neg (by decide), if_neg (by decide), if_neg (by decide), if_pos (by decide), if_neg (by decide), if_neg (by decide), if_neg (by decide), if_neg (by decide), if_pos (by decide)]; exact DoT.same R1
    | 6, _ => rw [if_neg (by decide), if_neg (by decide), if_neg (by decide), if_neg (by decide), if_neg (by decide), if_neg (by decide), if_pos (by decide), if_neg (by decide), if_neg (by decide), if_neg (by decide), if_neg (by decide), if_neg (by decide), if_pos (by decide)]; exact DoT.same R1
    | 7, _ => rw [if_neg (by decide), if_neg (by decide), if_neg (by decide), if_neg (by decide), if_neg (by decide), if_neg (by decide), if_neg (by decide), if_neg (by decide), if_neg (by decide), if_neg (by decide), if_neg (by decide), if_neg (by decide), if_neg (by decide), if_pos (by decide)]; exact DoT.same R1
  · rw [if_neg g, if_neg g]
    exact J
