/-! voices -/
abbrev Vw : Type := Int32 × List Int32
def v_b (k l x : Int32) : Vw := if k = 4 then ((x - l) * 3, [50, 12]) else (x - l, [12])
def v_r (k n l x : Int32) : Vw := if k = 2 then (x + n + (v_b k l 1).1, 30 :: 10 :: (v_b k l 1).2) else if und k 6 then (-(x + n), [70, 10]) else (x + n, [10])
def v_pm (k n l x : Int32) : Vw := ((v_r k n l x).1 * 2, 11 :: (v_r k n l x).2)
def v_m (k n l x : Int32) : Vw := if k = 1 then ((v_pm k n l x).1 - 1, 20 :: (v_pm k n l x).2) else if k = 5 then ((v_pm k n l x).1 + (v_r k n l x).1, 60 :: ((v_pm k n l x).2 ++ (v_r k n l x).2)) else if k = 7 then ((v_pm k n l x).1 ^^^ n, 80 :: (v_pm k n l x).2) else v_pm k n l x
def v_pt (k n l x : Int32) : Vw := ((v_m k n l x).1 ^^^ (v_b k l x).1, 13 :: ((v_m k n l x).2 ++ (v_b k l x).2))
def v_st (k n l x : Int32) : Vw := ((v_pt k n l (x + 1)).1, 71 :: (v_pt k n l (x + 1)).2)
def v_t (k n l x : Int32) : Vw := if k = 3 then ((v_m k n l 2).1 - (v_pt k n l x).1, 40 :: ((v_m k n l 2).2 ++ (v_pt k n l x).2)) else if k = 7 then ((v_b k l x).1 + (v_st k n l x).1, 81 :: ((v_b k l x).2 ++ (v_st k n l x).2)) else if k = 6 then v_st k n l x else v_pt k n l x
def v_a (k n l a x : Int32) : Vw := if a = 0 then v_r k n l x else if a = 1 then v_m k n l x else if a = 2 then v_b k l x else v_t k n l x
theorem v_b_l (k l x : Int32) : (v_b k l x).2.length ≤ 2 := by
  unfold v_b; split <;> simp
theorem v_r_l (k n l x : Int32) : (v_r k n l x).2.length ≤ 4 := by
  have := v_b_l k l 1
  unfold v_r; repeat' split
  all_goals simp
  all_goals omega
theorem v_pm_l (k n l x : Int32) : (v_pm k n l x).2.length ≤ 5 := by
  have := v_r_l k n l x
  unfold v_pm; simp; omega
theorem v_m_l (k n l x : Int32) : (v_m k n l x).2.length ≤ 10 := by
  have := v_r_l k n l x
  have := v_pm_l k n l x
  unfold v_m; repeat' split
  all_goals simp
  all_goals omega
theorem v_pt_l (k n l x : Int32) : (v_pt k n l x).2.length ≤ 13 := by
  have := v_m_l k n l x
  have := v_b_l k l x
  unfold v_pt; simp; omega
theorem v_st_l (k n l x : Int32) : (v_st k n l x).2.length ≤ 14 := by
  have := v_pt_l k n l (x + 1)
  unfold v_st; simp; omega
theorem v_t_l (k n l x : Int32) : (v_t k n l x).2.length ≤ 24 := by
  have := v_m_l k n l 2
  have := v_pt_l k n l x
  have := v_st_l k n l x
  have := v_b_l k l x
  unfold v_t; repeat' split
  all_goals simp
  all_goals omega
theorem v_a_l (k n l a x : Int32) : (v_a k n l a x).2.length ≤ 24 := by
  have := v_r_l k n l x
  have := v_m_l k n l x
  have := v_b_l k l x
  have := v_t_l k n l x
  unfold v_a; repeat' split
  all_goals omega
def trS (σ : Sg) (tr : List Int32) : Sg := (σ.1, σ.2.1, σ.2.2.1, σ.2.2.2.1, σ.2.2.2.2.1, tr)
/-! in the reference -/
def VT (M : Mm) (σ : Sg) (tr : List Int32) (k n l : Int32) : Prop := ∃ F A, TwAt M F A ∧ TwR F A (trS σ tr) ∧ F 22 = k ∧ F 23 = n ∧ F 24 = l
def Vt (M : Mm) (σ : Sg) (tr : List Int32) (k n l : Int32) (r : Option (Int32 × Mm)) (w : Vw) : Prop := ∃ M', r = some (w.1, M') ∧ VT M' σ (tr ++ w.2) k n l ∧ FrT M M'
theorem TwR.tr {F F' : Nat → Int32} {A A' : Nat → Nat → Int32} {σ : Sg} {tr tr' : List Int32} (h : TwR F A (trS σ tr)) (h0 : ∀ k, k ≠ 14 → A' k = A k) (h2 : F' 2 = F 2) (h21 : F' 21 = nI tr'.length) (ht : ∀ k, k < tr'.length → A' 14 k = tr'.getD k 0) : TwR F' A' (trS σ tr') := by
  obtain ⟨q0, q1, q2, q3, q4, q5, q6⟩ := h
  refine ⟨by rw [h0 0 (by decide)]; exact q0, by rw [h0 1 (by decide)]; exact q1, by rw [h2]; exact q2, by rw [h0 2 (by decide)]; exact q3, ?_, h21, ht⟩
  rw [h0 5 (by decide), h0 6 (by decide), h0 7 (by decide)]
  exact q4
section VTS
variable {M : Mm} {σ : Sg} {tr : List Int32} {k n l : Int32}
theorem T_begins (h : VT M σ tr k n l) (hl : tr.length < 40) (b : Int32) : ∃ M', fX11_begins M 137 b = some M' ∧ VT M' σ (tr ++ [b]) k n l ∧ FrT M M' := by
  obtain ⟨F, A, h1, h2, h3, h4, h5⟩ := h
  have f21 : F 21 = nI tr.length := h2.2.2.2.2.2.1
  have i21 : gI M 11 137 21 = some (nI tr.length) := by rw [← f21]; exact T_int h1 rfl
  have q20 : gQ M 11 137 20 = some 152 := T_ref h1 rfl
  obtain ⟨M1, a1, a2, a3⟩ := T_put h1 14 (by decide) (j := tr.length) (show tr.length < 40 from hl) b
  have a1' : sI M 0 152 (nI tr.length) b = some M1 := a1
  have i21' : gI M1 11 137 21 = some (nI tr.length) := by rw [← f21]; exact T_int a2 rfl
  obtain ⟨M2, b1, b2, b3⟩ := T_set a2 (k := 21) (nI (tr.length + 1)) rfl (by decide)
  refine ⟨M2, ?_, ⟨_, _, b2, ?_, ?_, ?_, ?_⟩, a3.trans b3⟩
  · simp only [fX11_begins, T_c h1, i21, q20, a1', i21', nI_1, b1, Option.bind_some]
    rw [if_neg (fun e => by have := (nI_eq (a := tr.length) (b := 40) (by omega) (by decide)).mp e; omega)]
  · refine h2.tr (fun j hj => u2_n hj) (pk_un (by decide)) ?_ (fun j hj => ?_)
    · rw [List.length_append]; exact pk_us
    · rw [getD_app]
      show upd (A 14) tr.length b j = _
      by_cases e : j = tr.length
      · subst e; rw [pk_us, if_pos rfl]
      · rw [pk_un e, if_neg e]
        exact h2.2.2.2.2.2.2 j (by simp at hj; show j < tr.length; omega)
  · rw [← h3]; exact pk_un (by decide)
  · rw [← h4]; exact pk_un (by decide)
  · rw [← h5]; exact pk_un (by decide)
theorem VT.c (h : VT M σ tr k n l) : gC M 11 137 = some 137 := by
  obtain ⟨F, A, h1, -⟩ := h
  exact T_c h1
theorem VT.kk (h : VT M σ tr k n l) : gI M 11 137 22 = some k := by
  obtain ⟨F, A, h1, -, h3, -⟩ := h
  rw [← h3]; exact T_int h1 rfl
theorem VT.nn (h : VT M σ tr k n l) : gI M 11 137 23 = some n := by
  obtain ⟨F, A, h1, -, -, h4, -⟩ := h
  rw [← h4]; exact T_int h1 rfl
theorem VT.ll (h : VT M σ tr k n l) : gI M 11 137 24 = some l := by
  obtain ⟨F, A, h1, -, -, -, h5⟩ := h
  rw [← h5]; exact T_int h1 rfl
theorem T_pR (h : VT M σ tr k n l) (hl : tr.length + 1 ≤ 40) (x : Int32) : Vt M σ tr k n l (fX11_plainRings M 137 x) (x + n, [10]) := by
  obtain ⟨M1, a1, a2, a3⟩ := T_begins h (by omega) 10
  refine ⟨M1, ?_, a2, a3⟩
  simp only [fX11_plainRings, h.c, a1, a2.nn, Option.bind_some]
theorem T_pB (h : VT M σ tr k n l) (hl : tr.length + 1 ≤ 40) (x : Int32) : Vt M σ tr k n l (fX11_plainBounds M 137 x) (x - l, [12]) := by
  obtain ⟨M1, a1, a2, a3⟩ := T_begins h (by omega) 12
  refine ⟨M1, ?_, a2, a3⟩
  simp only [fX11_plainBounds, h.c, a1, a2.ll, Option.bind_some]
theorem T_bnd (h : VT M σ tr k n l) (hl : tr.length + 2 ≤ 40) (x : Int32) : Vt M σ tr k n l (fX11_bounds M 137 x) (v_b k l x) := by
  unfold v_b
  simp only [fX11_bounds, h.c, h.kk, Option.bind_some]
  by_cases z : k = 4
  · rw [if_pos z, if_pos z]
    obtain ⟨M1, a1, a2, a3⟩ := T_begins h (by omega) 50
    obtain ⟨M2, b1, b2, b3⟩ := T_pB a2 (by simp; omega) x
    refine ⟨M2, ?_, by rw [List.append_assoc] at b2; exact b2, a3.trans b3⟩
    rw [a1, Option.bind_some]
    rw [b1]; rfl
  · rw [if_neg z, if_neg z]
    obtain ⟨M2, b1, b2, b3⟩ := T_pB h (by omega) x
    exact ⟨M2, by rw [b1]; rfl, b2, b3⟩
theorem T_rng (h : VT M σ tr k n l) (hl : tr.length + 4 ≤ 40) (x : Int32) : Vt M σ tr k n l (fX11_rings_ M 137 x) (v_r k n l x) := by
  unfold v_r
  simp only [fX11_rings_, h.c, h.kk, T_isUnder, Option.bind_some, gd]
  by_cases z : k = 2
  · rw [if_pos z, if_pos z]
    obtain ⟨M1, a1, a2, a3⟩ := T_begins h (by omega) 30
    obtain ⟨M2, b1, b2, b3⟩ := T_pR a2 (by simp; omega) x
    obtain ⟨M3, c1, c2, c3⟩ := T_bnd b2 (by simp; omega) 1
    refine ⟨M3, ?_, by rw [List.append_assoc, List.append_assoc] at c2; exact c2, (a3.trans b3).trans c3⟩
    rw [a1, Option.bind_some]
    rw [b1, bd2_s, c1]; rfl
  · rw [if_neg z, if_neg z]
    by_cases y : und k 6
    · rw [if_pos y, if_pos y]
      obtain ⟨M1, a1, a2, a3⟩ := T_begins h (by omega) 70
      obtain ⟨M2, b1, b2, b3⟩ := T_pR a2 (by simp; omega) x
      refine ⟨M2, ?_, by rw [List.append_assoc] at b2; exact b2, a3.trans b3⟩
      rw [a1, Option.bind_some]
      rw [b1]; rfl
    · rw [if_neg y, if_neg y]
      obtain ⟨M2, b1, b2, b3⟩ := T_pR h (by omega) x
      exact ⟨M2, by rw [b1]; rfl, b2, b3⟩
theorem T_pM (h : VT M σ tr k n l) (hl : tr.length + 5 ≤ 40) (x : Int32) : Vt M σ tr k n l (fX11_plainMeets M 137 x) (v_pm k n l x) := by
  obtain ⟨M1, a1, a2, a3⟩ := T_begins h (by omega) 11
  obtain ⟨M2, b1, b2, b3⟩ := T_rng a2 (by simp; omega) x
  refine ⟨M2, ?_, by rw [List.append_assoc] at b2; exact b2, a3.trans b3⟩
  simp only [fX11_plainMeets, h.c, a1, Option.bind_some]
  rw [b1]; rfl
theorem T_mts (h : VT M σ tr k n l) (hl : tr.length + 10 ≤ 40) (x : Int32) : Vt M σ tr k n l (fX11_meets_ M 137 x) (v_m k n l x) := by
  unfold v_m
  simp only [fX11_meets_, h.c, h.kk, Option.bind_some]
  by_cases z1 : k = 1
  · rw [if_pos z1, if_pos z1]
    obtain ⟨M1, a1, a2, a3⟩ := T_begins h (by omega) 20
    obtain ⟨M2, b1, b2, b3⟩ := T_pM a2 (by simp; omega) x
    refine ⟨M2, ?_, by rw [List.append_assoc] at b2; exact b2, a3.trans b3⟩
    rw [a1, Option.bind_some]
    rw [b1]; rfl
  rw [if_neg z1, if_neg z1]
  by_cases z5 : k = 5
  · rw [if_pos z5, if_pos z5]
    obtain ⟨M1, a1, a2, a3⟩ := T_begins h (by omega) 60
    obtain ⟨M2, b1, b2, b3⟩ := T_pM a2 (by simp; omega) x
    have hl2 := v_pm_l k n l x
    obtain ⟨M3, c1, c2, c3⟩ := T_rng b2 (by simp; omega) x
    refine ⟨M3, ?_, by rw [List.append_assoc, List.append_assoc] at c2; exact c2, (a3.trans b3).trans c3⟩
    rw [a1, Option.bind_some]
    rw [b1, bd2_s, c1]; rfl
  rw [if_neg z5, if_neg z5]
  by_cases z7 : k = 7
  · rw [if_pos z7, if_pos z7]
    obtain ⟨M1, a1, a2, a3⟩ := T_begins h (by omega) 80
    obtain ⟨M2, b1, b2, b3⟩ := T_pM a2 (by simp; omega) x
    refine ⟨M2, ?_, by rw [List.append_assoc] at b2; exact b2, a3.trans b3⟩
    rw [a1, Option.bind_some]
    rw [b1, bd2_s, b2.nn]; rfl
  rw [if_neg z7, if_neg z7]
  obtain ⟨M2, b1, b2, b3⟩ := T_pM h (by omega) x
  exact ⟨M2, by rw [b1]; rfl, b2, b3⟩
theorem T_pT (h : VT M σ tr k n l) (hl : tr.length + 13 ≤ 40) (x : Int32) : Vt M σ tr k n l (fX11_plainTells M 137 x) (v_pt k n l x) := by
  obtain ⟨M1, a1, a2, a3⟩ := T_begins h (by omega) 13
  obtain ⟨M2, b1, b2, b3⟩ := T_mts a2 (by simp; omega) x
  have hl2 := v_m_l k n l x
  obtain ⟨M3, c1, c2, c3⟩ := T_bnd b2 (by simp; omega) x
  refine ⟨M3, ?_, by rw [List.append_assoc, List.append_assoc] at c2; exact c2, (a3.trans b3).trans c3⟩
  simp only [fX11_plainTells, h.c, a1, Option.bind_some]
  rw [b1, bd2_s, c1]; rfl
theorem T_sT (h : VT M σ tr k n l) (hl : tr.length + 14 ≤ 40) (x : Int32) : Vt M σ tr k n l (fX11_slidTells M 137 x) (v_st k n l x) := by
  obtain ⟨M1, a1, a2, a3⟩ := T_begins h (by omega) 71
  obtain ⟨M2, b1, b2, b3⟩ := T_pT a2 (by simp; omega) (x + 1)
  refine ⟨M2, ?_, by rw [List.append_assoc] at b2; exact b2, a3.trans b3⟩
  simp only [fX11_slidTells, h.c, a1, Option.bind_some]
  rw [b1]; rfl
theorem T_tls (h : VT M σ tr k n l) (hl : tr.length + 24 ≤ 40) (x : Int32) : Vt M σ tr k n l (fX11_tells M 137 x) (v_t k n l x) := by
  unfold v_t
  simp only [fX11_tells, h.c, h.kk, Option.bind_some]
  by_cases z3 : k = 3
  · rw [if_pos z3, if_pos z3]
    obtain ⟨M1, a1, a2, a3⟩ := T_begins h (by omega) 40
    obtain ⟨M2, b1, b2, b3⟩ := T_mts a2 (by simp; omega) 2
    have hl2 := v_m_l k n l 2
    obtain ⟨M3, c1, c2, c3⟩ := T_pT b2 (by simp; omega) x
    refine ⟨M3, ?_, by rw [List.append_assoc, List.append_assoc] at c2; exact c2, (a3.trans b3).trans c3⟩
    rw [a1, Option.bind_some]
    rw [b1, bd2_s, c1]; rfl
  rw [if_neg z3, if_neg z3]
  by_cases z7 : k = 7
  · rw [if_pos z7, if_pos z7]
    obtain ⟨M1, a1, a2, a3⟩ := T_begins h (by omega) 81
    obtain ⟨M2, b1, b2, b3⟩ := T_bnd a2 (by simp; omega) x
    have hl2 := v_b_l k l x
    obtain ⟨M3, c1, c2, c3⟩ := T_sT b2 (by simp; omega) x
    refine ⟨M3, ?_, by rw [List.append_assoc, List.append_assoc] at c2; exact c2, (a3.trans b3).trans c3⟩
    rw [a1, Option.bind_some]
    rw [b1, bd2_s, c1]; rfl
  rw [if_neg z7, if_neg z7]
  by_cases z6 : k = 6
  · rw [if_pos z6, if_pos z6]
    obtain ⟨M2, b1, b2, b3⟩ := T_sT h (by omega) x
    exact ⟨M2, by rw [b1]; rfl, b2, b3⟩
  rw [if_neg z6, if_neg z6]
  obtain ⟨M2, b1, b2, b3⟩ := T_pT h (by omega) x
  exact ⟨M2, by rw [b1]; rfl, b2, b3⟩
end VTS
def vcV (S : St) (j : Nat) (a x : Int32) : Vw := v_a (cL ((sk S).getD j []) 1) (nI j) (cL ((sk S).getD j []) 3) a x
def sp_voice (σ : Sg) (c a x : Int32) : An := if isK (g0 σ) c ∧ wi a 0 3 then ((vcV (g0 σ) c.toNatClampNeg a x).1, trS σ (vcV (g0 σ) c.toNatClampNeg a x).2) else er σ 1
theorem I_voice {σ : Sg} (h : Ig σ) (c a x : Int32) : Ig (sp_voice σ c a x).2 := by
  unfold sp_voice
  by_cases g : isK (g0 σ) c ∧ wi a 0 3
  · rw [if_pos g]
    have := v_a_l (cL ((sk (g0 σ)).getD c.toNatClampNeg []) 1) (nI c.toNatClampNeg) (cL ((sk (g0 σ)).getD c.toNatClampNeg []) 3) a x
    exact ⟨h.1, h.2.1, h.2.2.1, h.2.2.2.1, by show (vcV (g0 σ) c.toNatClampNeg a x).2.length ≤ 40; unfold vcV; omega⟩
  · rw [if_neg g]; exact h.er 1
theorem T_voice {M : Mm} {σ : Sg} (h : RelT M σ) (hI : Ig σ) (c a x : Int32) : DoT M (fX11_voice M 137 c a x) (sp_voice σ c a x) := by
  obtain ⟨F, A, k1, k2⟩ := id h
  have J := DoT.er h hI.2.2.1 (a := 1) 1 rfl (by decide)
  have hk : (sk (g0 σ)).length ≤ 12 := hI.1.K
  unfold fX11_voice sp_voice jX11_voice_20
  simp only [T_c k1, T_isCounting k1 k2, show fX11_in M a.toInt64 0 3 = some (if wi a 0 3 then 1 else 0) from T_in M (a := 0) (b := 3) (by decide) (by decide), Option.bind_some, gd]
  by_cases g : isK (g0 σ) c ∧ wi a 0 3
  · rw [if_pos g, if_pos g.1, if_pos g.2]
    obtain ⟨j, hj, rfl⟩ := (wi_n (by omega)).mp g.1
    rw [nI_clamp (show j < 2 ^ 31 by omega)]
    obtain ⟨M1, a1, a2, a3⟩ := T_set k1 (k := 21) 0 rfl (by decide)
    have k2' : TwR F A (trS σ (gt σ)) := k2
    have t1 : TwR (u1 F 21 0) A (trS σ []) := k2'.tr (fun _ _ => rfl) (pk_un (by decide)) pk_us (fun k hk => by simp at hk)
    have f0 : fX11_of M1 137 (nI j) 0 = some (((sk (g0 σ)).getD j []).getD 1 0) := T_of a2 t1 (σ := trS σ []) hk hj (w := 0) (by decide)
    obtain ⟨M2, b1, b2, b3⟩ := T_set a2 (k := 22) (((sk (g0 σ)).getD j []).getD 1 0) rfl (by decide)
    obtain ⟨M3, c1, c2, c3⟩ := T_set b2 (k := 23) (nI j) rfl (by decide)
    have t3 : TwR (u1 (u1 (u1 F 21 0) 22 (((sk (g0 σ)).getD j []).getD 1 0)) 23 (nI j)) A (trS σ []) := t1.tr (fun _ _ => rfl) (by unfold u1; rw [pk_un (by decide), pk_un (by decide)]) (by unfold u1; rw [pk_un (by decide), pk_un (by decide)]; exact pk_us) (fun k hk => by simp at hk)
    have f2 : fX11_of M3 137 (nI j) 2 = some (((sk (g0 σ)).getD j []).getD 3 0) := T_of c2 t3 (σ := trS σ []) hk hj (w := 2) (by decide)
    obtain ⟨M4, d1, d2, d3⟩ := T_set c2 (k := 24) (((sk (g0 σ)).getD j []).getD 3 0) rfl (by decide)
    have t4 : VT M4 σ [] (cL ((sk (g0 σ)).getD j []) 1) (nI j) (cL ((sk (g0 σ)).getD j []) 3) := ⟨_, A, d2, t3.tr (fun _ _ => rfl) (by unfold u1; rw [pk_un (by decide)]) (by unfold u1; rw [pk_un (by decide), pk_un (by decide), pk_un (by decide)]; exact pk_us) (fun k hk => by simp at hk), by unfold u1; rw [pk_un (by decide), pk_un (by decide)]; exact pk_us, by unfold u1; rw [pk_un (by decide)]; exact pk_us, pk_us⟩
    simp only [a1, f0, b1, c1, f2, d1, Option.bind_some]
    have o := ((a3.trans b3).trans c3).trans d3
    have fin : ∀ (r : Option (Int32 × Mm)) (w : Vw), w = vcV (g0 σ) j a x → Vt M4 σ [] (cL ((sk (g0 σ)).getD j []) 1) (nI j) (cL ((sk (g0 σ)).getD j []) 3) r w → DoT M (bd2 r fun v M => some (v, M)) ((vcV (g0 σ) j a x).1, trS σ (vcV (g0 σ) j a x).2) := by
      intro r w hw hv
      subst hw
      obtain ⟨M5, e1, ⟨F5, A5, e2, e3, -⟩, e4⟩ := hv
      exact ⟨M5, by rw [e1]; rfl, ⟨F5, A5, e2, e3⟩, o.trans e4⟩
    unfold vcV v_a at fin ⊢
    by_cases z0 : a = 0
    · rw [if_pos z0] at fin ⊢
      rw [if_pos z0]
      exact fin _ _ rfl (T_rng t4 (by simp) x)
    rw [if_neg z0] at fin ⊢
    rw [if_neg z0]
    by_cases z1 : a = 1
    · rw [if_pos z1] at fin ⊢
      rw [if_pos z1]
      exact fin _ _ rfl (T_mts t4 (by simp) x)
    rw [if_neg z1] at fin ⊢
    rw [if_neg z1]
    by_cases z2 : a = 2
    · rw [if_pos z2] at fin ⊢
      rw [if_pos z2]
      exact fin _ _ rfl (T_bnd t4 (by simp) x)
    rw [if_neg z2] at fin ⊢
    rw [if_neg z2]
    exact fin _ _ rfl (T_tls t4 (by simp) x)
  · rw [if_neg g]
    by_cases g1 : isK (g0 σ) c
    · rw [if_pos g1, if_neg (fun q => g ⟨g1, q⟩)]; exact J
    · rw [if_neg g1]; exact J
