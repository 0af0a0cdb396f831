/-! as -/
abbrev und (c k : Int32) : Prop := k = 0 ∨ c = k ∨ (k = 6 ∧ c = 7)
def sp_as (σ : Sg) (a k : Int32) : An := if wi a 0 (nI (sk (g0 σ)).length - 1) ∧ wi k 0 7 then (if und (((sk (g0 σ)).getD a.toNatClampNeg []).getD 1 0) k then (((sk (g0 σ)).getD a.toNatClampNeg []).getD 3 0, σ) else er σ 5) else er σ 1
theorem isOf0 {N : Nat} {M : Mm} {k : Int32} (m : Nat) (x : Int32) (h1 : ¬ (8 : Int32) ≤ x) (h2 : ¬ (8 : Int32) ≤ x + 1) : LX0_isOf_7 N (m + 2) M k 0 x = some (if k = 0 then 1 else 0) := by
  show BX0_isOf_7 N (LX0_isOf_7 N (m + 1)) M k 0 x = _
  unfold BX0_isOf_7
  rw [if_neg h1, if_neg (by decide)]
  by_cases z : (0 : Int32) = k
  · rw [if_pos z, if_pos z.symm]
  · rw [if_neg z, if_neg (fun q => z q.symm)]
    show ((fX0_kindAbove M 0).bind fun v2 => LX0_isOf_7 N (m + 1) M k v2 (x + 1)) = _
    show BX0_isOf_7 N (LX0_isOf_7 N m) M k (-1) (x + 1) = _
    unfold BX0_isOf_7
    rw [if_neg h2, if_pos (by decide)]
theorem isOf_ok {N : Nat} {M : Mm} {c k : Int32} (n : Nat) (hc : ¬ c < 0) : LX0_isOf_7 N (n + 4) M k c 0 = some (if und c k then 1 else 0) := by
  show BX0_isOf_7 N (LX0_isOf_7 N (n + 3)) M k c 0 = _
  unfold BX0_isOf_7
  rw [if_neg (by decide), if_neg hc]
  by_cases e : c = k
  · rw [if_pos e, if_pos (show und c k from Or.inr (Or.inl e))]
  rw [if_neg e]
  unfold fX0_kindAbove
  by_cases c0 : c = 0
  · rw [if_pos c0]
    show BX0_isOf_7 N (LX0_isOf_7 N (n + 2)) M k (-1) (0 + 1) = _
    unfold BX0_isOf_7
    rw [if_neg (by decide), if_pos (by decide), if_neg]
    rintro (q | q | q)
    · exact e (by rw [c0, q])
    · exact e q
    · rw [c0] at q; exact absurd q.2 (by decide)
  rw [if_neg c0]
  by_cases c7 : c = 7
  · rw [if_pos c7]
    show BX0_isOf_7 N (LX0_isOf_7 N (n + 2)) M k 6 (0 + 1) = _
    unfold BX0_isOf_7
    rw [if_neg (by decide), if_neg (by decide)]
    by_cases z : (6 : Int32) = k
    · rw [if_pos z, if_pos (show und c k from Or.inr (Or.inr ⟨z.symm, c7⟩))]
    · rw [if_neg z]
      show LX0_isOf_7 N (n + 2) M k 0 (0 + 1 + 1) = _
      rw [isOf0 n _ (by decide) (by decide)]
      by_cases k0 : k = 0
      · rw [if_pos k0, if_pos (show und c k from Or.inl k0)]
      · rw [if_neg k0, if_neg]
        rintro (q | q | q)
        · exact k0 q
        · exact e q
        · exact z q.1.symm
  · rw [if_neg c7]
    show LX0_isOf_7 N (n + 3) M k 0 (0 + 1) = _
    rw [isOf0 (n + 1) _ (by decide) (by decide)]
    by_cases k0 : k = 0
    · rw [if_pos k0, if_pos (show und c k from Or.inl k0)]
    · rw [if_neg k0, if_neg]
      rintro (q | q | q)
      · exact k0 q
      · exact e q
      · exact c7 q.2
theorem C_countingAt {M : Mm} {σ : Sg} (h : RelC M σ) (hI : Ig σ) (a : Int32) : (¬ wi a 0 (nI (sk (g0 σ)).length - 1) → fX6_countingAt M 1 a = some none) ∧ ∀ j : Nat, j < (sk (g0 σ)).length → ∃ q, fX6_countingAt M 1 (nI j) = some (some q) ∧ CntAt M q ((sk (g0 σ)).getD j []) := by
  have n1 := h.2.1
  have hk : (sk (g0 σ)).length ≤ 12 := hI.1.K
  obtain ⟨f, s1, s2, s3⟩ := n1.2.2.2
  have q7 : gQ M 6 1 7 = some (1 + 14) := gQ_ok n1.1 rfl
  constructor
  · intro g
    simp only [fX6_countingAt, n1.c, n1.n, Option.bind_some]
    by_cases z : a < 0
    · rw [if_pos z]
    · rw [if_neg z]
      obtain ⟨k, hk1, rfl⟩ := nI_of z
      have : ¬ k < (sk (g0 σ)).length := fun q => g ((wi_n (by omega)).mpr ⟨k, q, rfl⟩)
      rw [if_pos (nI_le (by omega) hk1)]
  · intro j hj
    obtain ⟨q, z1, z2⟩ := s3 j hj
    refine ⟨q, ?_, z2⟩
    simp only [fX6_countingAt, n1.c, n1.n, q7, aL_ok s1 (by decide), aR_ok s1 (show j < 12 by omega) (by decide), Option.bind_some, z1]
    rw [if_neg (nI_pos (by omega)), if_neg (nI_ge hj (by omega)), if_neg (nI_ge (by omega) (by decide))]
theorem CntAt.i {M : Mm} {q : Nat} {l : List Int32} (h : CntAt M q l) {k : Nat} (hk : k < 6) : gI M 0 q k = some (l.getD k 0) := by
  refine gI_ok h.2.2 ?_
  have := h.2.1
  rw [List.getElem?_map, List.getD_eq_getElem?_getD, List.getElem?_eq_getElem (by omega)]
  rfl
theorem CntAt.c {M : Mm} {q : Nat} {l : List Int32} (h : CntAt M q l) : gC M 0 q = some q := gC_ok h.2.2
theorem C_as {N : Nat} {M : Mm} {σ : Sg} (h : RelC M σ) (hI : Ig σ) (hN : 2000 ≤ N) (a k : Int32) : DoC M (fX10_as N M 0 a k) (sp_as σ a k) := by
  have J := DoC.er h (a := 1) 1 rfl (by decide)
  have J5 := DoC.er h (a := 5) 5 rfl (by decide)
  have hk : (sk (g0 σ)).length ≤ 12 := hI.1.K
  obtain ⟨p1, p2⟩ := C_countingAt h hI a
  unfold fX10_as sp_as jX10_as_20
  simp only [h.c, h.q0, Option.bind_some]
  by_cases g : wi a 0 (nI (sk (g0 σ)).length - 1)
  · obtain ⟨j, hj, rfl⟩ := (wi_n (by omega)).mp g
    obtain ⟨q, z1, z2⟩ := p2 j hj
    rw [z1, nI_clamp (by omega)]
    show DoC M ((fX10_isKind M k).bind _) _
    simp only [C_isKind, Option.bind_some, gd]
    by_cases g2 : wi k 0 7
    · rw [if_pos g2, if_pos (show wi (nI j) 0 (nI (sk (g0 σ)).length - 1) ∧ wi k 0 7 from ⟨g, g2⟩)]
      have hc := (hI.1.2.2.2.2.2.2.2 j hj).2.2.1
      obtain ⟨n, rfl⟩ : ∃ n, N = n + 4 := ⟨N - 4, by omega⟩
      simp only [fX0_isOf, z2.c, z2.i (show 1 < 6 by decide), z2.i (show 3 < 6 by decide), isOf_ok n hc.1, Option.bind_some, gd]
      by_cases u : und (((sk (g0 σ)).getD j []).getD 1 0) k
      · rw [if_pos u, if_pos u]; exact DoC.same h
      · rw [if_neg u, if_neg u]; exact J5
    · rw [if_neg g2, if_neg (show ¬ (wi (nI j) 0 (nI (sk (g0 σ)).length - 1) ∧ wi k 0 7) from fun q => g2 q.2)]; exact J
  · rw [if_neg (show ¬ (wi a 0 (nI (sk (g0 σ)).length - 1) ∧ wi k 0 7) from fun q => g q.1)]
    rw [p1 g]
    exact J
theorem T_isCounting {M : Mm} {F : Nat → Int32} {A : Nat → Nat → Int32} {σ : Sg} (h : TwAt M F A) (r : TwR F A σ) (a : Int32) : fX11_isCounting M 137 a = some (if wi a 0 (nI (sk (g0 σ)).length - 1) then 1 else 0) := by
  simp only [fX11_isCounting, T_c h, T_q0 h, (T_cnt h r).2.2.1, Option.bind_some]
  exact T_z M a 0 _ (by decide) rfl
theorem T_of {M : Mm} {F : Nat → Int32} {A : Nat → Nat → Int32} {σ : Sg} (h : TwAt M F A) (r : TwR F A σ) (hK : (sk (g0 σ)).length ≤ 12) {j w : Nat} (hj : j < (sk (g0 σ)).length) (hw : w < 5) : fX11_of M 137 (nI j) (nI w) = some (((sk (g0 σ)).getD j []).getD (w + 1) 0) := by
  have e : (306 : Int32) + (5 : Int32) * nI j + nI w = nI (306 + 5 * j + w) := by
    rw [show (5 : Int32) * nI j = nI (5 * j) from pk_mul 5 j, show (306 : Int32) + nI (5 * j) = nI (306 + 5 * j) from nI_add 306 _, nI_add]
  simp only [fX11_of, T_c h, T_q0 h, e, T_m h (show 306 + 5 * j + w < 950 by omega), r.1.2.2.1 j hj w hw, Option.bind_some]
theorem T_isUnder (M : Mm) (c k : Int32) : fX11_isUnder M c k = some (if und c k then 1 else 0) := by
  unfold fX11_isUnder
  by_cases k0 : k = 0
  · rw [if_pos k0, if_pos (show und c k from Or.inl k0)]
  rw [if_neg k0]
  by_cases e : c = k
  · rw [if_pos e, if_pos (show und c k from Or.inr (Or.inl e))]
  rw [if_neg e]
  by_cases z : k = 6
  · rw [if_pos z]
    by_cases y : c = 7
    · rw [if_pos y, if_pos (show und c k from Or.inr (Or.inr ⟨z, y⟩))]
    · rw [if_neg y, if_neg]
      rintro (q | q | q)
      · exact k0 q
      · exact e q
      · exact y q.2
  · rw [if_neg z, if_neg]
    rintro (q | q | q)
    · exact k0 q
    · exact e q
    · exact z q.1
theorem T_as {M : Mm} {σ : Sg} (h : RelT M σ) (hI : Ig σ) (a k : Int32) : DoT M (fX11_as M 137 a k) (sp_as σ a k) := by
  obtain ⟨F, A, k1, k2⟩ := id h
  have J := DoT.er h hI.2.2.1 (a := 1) 1 rfl (by decide)
  have J5 := DoT.er h hI.2.2.1 (a := 5) 5 rfl (by decide)
  have hk : (sk (g0 σ)).length ≤ 12 := hI.1.K
  unfold fX11_as sp_as jX11_as_20
  simp only [T_c k1, T_isCounting k1 k2, Option.bind_some, gd]
  by_cases g : wi a 0 (nI (sk (g0 σ)).length - 1)
  · rw [if_pos g, T_in M (a := 0) (b := 7) (by decide) (by decide)]
    simp only [Option.bind_some, gd]
    obtain ⟨j, hj, rfl⟩ := (wi_n (by omega)).mp g
    rw [nI_clamp (by omega)]
    by_cases g2 : wi k 0 7
    · rw [if_pos g2, if_pos (show wi (nI j) 0 (nI (sk (g0 σ)).length - 1) ∧ wi k 0 7 from ⟨g, g2⟩)]
      have f0 : fX11_of M 137 (nI j) 0 = some (((sk (g0 σ)).getD j []).getD 1 0) := T_of k1 k2 hk hj (w := 0) (by decide)
      have f2 : fX11_of M 137 (nI j) 2 = some (((sk (g0 σ)).getD j []).getD 3 0) := T_of k1 k2 hk hj (w := 2) (by decide)
      simp only [f0, f2, T_isUnder, Option.bind_some, gd]
      by_cases u : und (((sk (g0 σ)).getD j []).getD 1 0) k
      · rw [if_pos u, if_pos u]; exact DoT.same h
      · rw [if_neg u, if_neg u]; exact J5
    · rw [if_neg g2, if_neg (show ¬ (wi (nI j) 0 (nI (sk (g0 σ)).length - 1) ∧ wi k 0 7) from fun q => g2 q.2)]; exact J
  · rw [if_neg g, if_neg (show ¬ (wi a 0 (nI (sk (g0 σ)).length - 1) ∧ wi k 0 7) from fun q => g q.1)]
    exact J
