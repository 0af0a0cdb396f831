/-! is it a bar, a pair .. -/
abbrev isB (S : St) (a : Int32) : Prop := wi a 0 (nI (sr S 1).length - 1)
abbrev isP (S : St) (ab : Int32) : Prop := ¬ ab < 0 ∧ isB S (ab / 10) ∧ isB S (rmI ab 10) ∧ ¬ ab / 10 = rmI ab 10
theorem C_isBar {M : Mm} {σ : Sg} (h : RelC M σ) (a : Int32) : fX10_isBar M 0 a = some (if isB (g0 σ) a then 1 else 0) := by
  simp only [fX10_isBar, h.c, h.q0, h.f1, R_size h.w1, Option.bind_some, C_within]
  by_cases g : isB (g0 σ) a
  · rw [if_pos g]; rfl
  · rw [if_neg g]; rfl
theorem C_isPair {M : Mm} {σ : Sg} (h : RelC M σ) (a : Int32) : fX10_isPair M 0 a = some (if isP (g0 σ) a then 1 else 0) := by
  simp only [fX10_isPair, h.c, Option.bind_some, C_isBar h]
  by_cases g1 : a < 0
  · rw [if_pos g1, if_neg (fun q => q.1 g1)]
  · rw [if_neg g1]
    by_cases g2 : isB (g0 σ) (a / 10)
    · rw [if_pos g2, i10]
      by_cases g3 : isB (g0 σ) (rmI a 10)
      · rw [if_pos g3, i10]
        by_cases g4 : a / 10 = rmI a 10
        · rw [if_pos g4, if_neg (fun q => q.2.2.2 g4)]
        · rw [if_neg g4, if_pos ⟨g1, g2, g3, g4⟩]
      · rw [if_neg g3, i00, if_neg (fun q => g3 q.2.2.1)]
    · rw [if_neg g2, i00, if_neg (fun q => g2 q.2.1)]
theorem T_isBar {M : Mm} {F : Nat → Int32} {A : Nat → Nat → Int32} {σ : Sg} (h : TwAt M F A) (r : TwR F A σ) (a : Int32) : fX11_isBar M 137 a = some (if isB (g0 σ) a then 1 else 0) := by
  simp only [fX11_isBar, T_c h, T_q0 h, (T_cnt h r).1, Option.bind_some]
  rw [T_in M (a := 0) (b := nI (sr (g0 σ) 1).length - 1) (by decide) rfl]
  by_cases g : isB (g0 σ) a
  · rw [if_pos g]; rfl
  · rw [if_neg g]; rfl
theorem T_isPair {M : Mm} {F : Nat → Int32} {A : Nat → Nat → Int32} {σ : Sg} (h : TwAt M F A) (r : TwR F A σ) (a : Int32) : fX11_isPair M 137 a = some (if isP (g0 σ) a then 1 else 0) := by
  simp only [fX11_isPair, T_c h, Option.bind_some, T_isBar h r]
  by_cases g1 : a < 0
  · rw [if_pos g1, if_neg (fun q => q.1 g1)]
  · rw [if_neg g1]
    by_cases g2 : isB (g0 σ) (a / 10)
    · rw [if_pos g2, i10]
      by_cases g3 : isB (g0 σ) (rmI a 10)
      · rw [if_pos g3, i10]
        by_cases g4 : a / 10 = rmI a 10
        · rw [if_pos g4, if_neg (fun q => q.2.2.2 g4)]
        · rw [if_neg g4, if_pos ⟨g1, g2, g3, g4⟩]
      · rw [if_neg g3, i00, if_neg (fun q => g3 q.2.2.1)]
    · rw [if_neg g2, i00, if_neg (fun q => g2 q.2.1)]
/-! a ring -/
def adR (σ : Sg) (a b c : Int32) : Sg := adS (adS (adS σ 2 a) 3 b) 4 c
theorem C_addRing {M : Mm} {σ : Sg} (h : RelC M σ) (hI : Iv (g0 σ)) (a b c : Int32) (hl : (sr (g0 σ) 2).length < 96) : ∃ M', fX6_addRing M 1 a b c = some (1, M') ∧ RelC M' (adR σ a b c) ∧ FrC M M' := by
  obtain ⟨l3, l4, -⟩ := hI.2.2.2.1
  obtain ⟨M1, e1, e2, e3⟩ := R_add h.w2 a hl
  have h1 := h.u2 e3 e2
  obtain ⟨M2, k1, k2, k3⟩ := R_add h1.w3 b (show (sr (g0 σ) 3).length < 96 by omega)
  have h2 := h1.u3 k3 k2
  obtain ⟨M3, n1, n2, n3⟩ := R_add h2.w4 c (show (sr (g0 σ) 4).length < 96 by omega)
  have h3 := h2.u4 n3 n2
  refine ⟨M3, ?_, h3, ((e3.frC (fun q z => by omega)).trans (k3.frC (fun q z => by omega))).trans (n3.frC (fun q z => by omega))⟩
  simp only [fX6_addRing, h.2.1.c, h.f2, e1, bd2_s, i10, h1.f3, k1, h2.f4, n1, Option.bind_some]
theorem C_addRing0 {M : Mm} {σ : Sg} (h : RelC M σ) (a b c : Int32) (hl : (sr (g0 σ) 2).length = 96) : fX6_addRing M 1 a b c = some (0, M) := by
  simp only [fX6_addRing, h.2.1.c, h.f2, R_full h.w2 a hl, bd2_s, if_true, Option.bind_some]
theorem TwS.ring {f : Nat → Int32} {S : St} {n : Nat} {a b c : Int32} (h : TwS f S) (hL : ∀ i, i < 13 → (sr S i).length ≤ rc i) (hk : (sk S).length ≤ 12) (l2 : (sr S 2).length = n) (l3 : (sr S 3).length = n) (l4 : (sr S 4).length = n) (hn : n < 96) :
    TwS (upd (upd (upd (upd f (tix 2 n) a) (tix 3 n) b) (tix 4 n) c) 1 (nI (n + 1))) (srow (srow (srow S 2 (sr S 2 ++ [a])) 3 (sr S 3 ++ [b])) 4 (sr S 4 ++ [c])) := by
  obtain ⟨⟨c0, c1, c2, c3, c4, c5, c6, c7, c8⟩, h1, h2, h3⟩ := h
  have b2 := tix_in 2 (by decide) n hn
  have b3 := tix_in 3 (by decide) n hn
  have b4 := tix_in 4 (by decide) n hn
  have g : ∀ p, p ≠ 1 → p ≠ tix 2 n → p ≠ tix 3 n → p ≠ tix 4 n → upd (upd (upd (upd f (tix 2 n) a) (tix 3 n) b) (tix 4 n) c) 1 (nI (n + 1)) p = f p := fun p q0 q1 q2 q3 => by rw [pk_un q0, pk_un q3, pk_un q2, pk_un q1]
  have e2 : sr (srow (srow (srow S 2 (sr S 2 ++ [a])) 3 (sr S 3 ++ [b])) 4 (sr S 4 ++ [c])) = fun j => if j = 4 then sr S 4 ++ [c] else if j = 3 then sr S 3 ++ [b] else if j = 2 then sr S 2 ++ [a] else sr S j := rfl
  refine ⟨⟨?_, ?_, ?_, ?_, ?_, ?_, ?_, ?_, ?_⟩, fun k hk' l hl => ?_, fun q hq w hw => ?_, fun u hu => ?_⟩
  · rw [g 0 (by decide) (by omega) (by omega) (by omega)]; exact c0
  · rw [pk_us, e2]; simp [l2]
  · rw [g 2 (by decide) (by omega) (by omega) (by omega)]; exact c2
  · rw [g 3 (by decide) (by omega) (by omega) (by omega)]; exact c3
  · rw [g 4 (by decide) (by omega) (by omega) (by omega)]; exact c4
  · rw [g 5 (by decide) (by omega) (by omega) (by omega)]; exact c5
  · rw [g 6 (by decide) (by omega) (by omega) (by omega)]; exact c6
  · rw [g 7 (by decide) (by omega) (by omega) (by omega)]; exact c7
  · rw [g 8 (by decide) (by omega) (by omega) (by omega)]; exact c8
  · rw [e2] at hl ⊢
    dsimp only at hl ⊢
    have low : ∀ l, l < n → ∀ k, k < 13 → (sr S k).length ≤ rc k → l < (sr S k).length → upd (upd (upd (upd f (tix 2 n) a) (tix 3 n) b) (tix 4 n) c) 1 (nI (n + 1)) (tix k l) = (sr S k).getD l 0 := fun l hl k hk hr hlk => by
      have hb := tix_in k hk l (by omega)
      rw [g _ (by omega) (fun q => by have := (tix_inj hk (by omega) (by decide) hn q).2; omega) (fun q => by have := (tix_inj hk (by omega) (by decide) hn q).2; omega) (fun q => by have := (tix_inj hk (by omega) (by decide) hn q).2; omega)]
      exact h1 k hk l hlk
    by_cases q4 : k = 4
    · subst q4
      simp only [if_true] at hl ⊢
      rw [getD_app, l4]
      simp [l4] at hl
      by_cases e : l = n
      · subst e; rw [if_pos rfl, pk_un (by omega), pk_us]
      · rw [if_neg e]; exact low l (by omega) 4 hk' (hL 4 hk') (by omega)
    · rw [if_neg q4] at hl ⊢
      by_cases q3 : k = 3
      · subst q3
        simp only [if_true] at hl ⊢
        rw [getD_app, l3]
        simp [l3] at hl
        by_cases e : l = n
        · subst e; rw [if_pos rfl, pk_un (by omega), pk_un (fun q => by have := (tix_inj (by decide) hn (by decide) hn q).1; omega), pk_us]
        · rw [if_neg e]; exact low l (by omega) 3 hk' (hL 3 hk') (by omega)
      · rw [if_neg q3] at hl ⊢
        by_cases q2 : k = 2
        · subst q2
          simp only [if_true] at hl ⊢
          rw [getD_app, l2]
          simp [l2] at hl
          by_cases e : l = n
          · subst e; rw [if_pos rfl, pk_un (by omega), pk_un (fun q => by have := (tix_inj (by decide) hn (by decide) hn q).1; omega), pk_un (fun q => by have := (tix_inj (by decide) hn (by decide) hn q).1; omega), pk_us]
          · rw [if_neg e]; exact low l (by omega) 2 hk' (hL 2 hk') (by omega)
        · rw [if_neg q2] at hl ⊢
          have hr := Nat.lt_of_lt_of_le hl (hL k hk')
          have hb := tix_in k hk' l hr
          rw [g _ (by omega) (fun q => q2 (tix_inj hk' hr (by decide) hn q).1) (fun q => q3 (tix_inj hk' hr (by decide) hn q).1) (fun q => q4 (tix_inj hk' hr (by decide) hn q).1)]
          exact h1 k hk' l hl
  · have hq' : q < 12 := Nat.lt_of_lt_of_le hq hk
    rw [g _ (by omega) (by omega) (by omega) (by omega)]
    exact h2 q hq w hw
  · exact ((((h3 u hu).up (by omega)).up (by omega)).up (by omega)).up (by omega)
theorem T_rings {M : Mm} {F : Nat → Int32} {A : Nat → Nat → Int32} {σ : Sg} (h : TwAt M F A) (r : TwR F A σ) (hI : Iv (g0 σ)) (a b c : Int32) (hl : (sr (g0 σ) 2).length < 96) : ∃ M', fX11_rings M 137 a b c = some M' ∧ RelT M' (adR σ a b c) ∧ FrT M M' := by
  obtain ⟨l3, l4, -⟩ := hI.2.2.2.1
  obtain ⟨n, hn⟩ : ∃ n, n = (sr (g0 σ) 2).length := ⟨_, rfl⟩
  have hn96 : n < 96 := by omega
  have b2 := tix_in 2 (by decide) n hn96
  have b3 := tix_in 3 (by decide) n hn96
  have b4 := tix_in 4 (by decide) n hn96
  have c1 := (T_cnt h r).2.1
  rw [← hn] at c1
  have ex2 : (18 : Int32) + (3 : Int32) * nI n = nI (tix 2 n) := by
    rw [show (3 : Int32) * nI n = nI (3 * n) from pk_mul 3 n]
    exact nI_add 18 (3 * n)
  have ex3 : nI (tix 2 n) + (1 : Int32) = nI (tix 3 n) := by
    rw [nI_1]
    show nI (18 + 3 * n + 1) = nI (19 + 3 * n)
    rw [show 18 + 3 * n + 1 = 19 + 3 * n by omega]
  have ex4 : nI (tix 2 n) + (2 : Int32) = nI (tix 4 n) := by
    rw [show nI (tix 2 n) + (2 : Int32) = nI (tix 2 n + 2) from nI_add _ 2]
    show nI (18 + 3 * n + 2) = nI (20 + 3 * n)
    rw [show 18 + 3 * n + 2 = 20 + 3 * n by omega]
  obtain ⟨M1, e1, e2, e3⟩ := T_mp h (j := tix 2 n) (by omega) a
  obtain ⟨M2, f1, f2, f3⟩ := T_mp e2 (j := tix 3 n) (by omega) b
  obtain ⟨M3, k1, k2, k3⟩ := T_mp f2 (j := tix 4 n) (by omega) c
  have c1' : aI M3 0 138 1 = some (nI n) := by
    have q := T_m k2 (j := 1) (by decide)
    rw [u2_0, pk_un (by omega), u2_0, pk_un (by omega), u2_0, pk_un (by omega), r.1.1.2.1, ← hn] at q
    exact q
  obtain ⟨M4, n1, n2, n3⟩ := T_mp k2 (j := 1) (by decide) (nI (n + 1))
  have n1' : sI M3 0 138 1 (nI (n + 1)) = some M4 := n1
  refine ⟨M4, ?_, ⟨F, _, n2, r.m0 ?_ (fun k hk => by rw [u2_n hk, u2_n hk, u2_n hk, u2_n hk])⟩, ((e3.trans f3).trans k3).trans n3⟩
  · simp only [fX11_rings, T_c h, T_q0 h, c1, Option.bind_some, ex2, e1, T_q0 e2, ex3, f1, T_q0 f2, ex4, k1, T_q0 k2, c1', nI_1, n1']
  · rw [u2_0, u2_0, u2_0, u2_0]
    exact r.1.ring hI.L hI.K hn.symm (by omega) (by omega) hn96
/-! guards -/
theorem gd {p : Prop} [Decidable p] {α : Type} {A B : Option α} : (if (if p then (1 : Int32) else 0) = 0 then A else B) = if p then B else A := by
  by_cases h : p
  · rw [if_pos h, if_pos h, if_neg (by decide)]
  · rw [if_neg h, if_neg h, if_pos rfl]
theorem C_z (M : Mm) (x a b : Int32) : ((fX10_within M x a b).bind fun v => (zr v).bind fun w => some w) = some (if wi x a b then 1 else 0) := by
  rw [C_within]
  by_cases g : wi x a b
  · rw [if_pos g]; rfl
  · rw [if_neg g]; rfl
theorem C_isTenth (M : Mm) (x : Int32) : fX10_isTenth M x = some (if wi x 0 9999 then 1 else 0) := C_z M x 0 9999
theorem C_isHeight (M : Mm) (x : Int32) : fX10_isHeight M x = some (if wi x 1 999 then 1 else 0) := C_z M x 1 999
theorem C_isLine (M : Mm) (x : Int32) : fX10_isLine M x = some (if wi x 0 999 then 1 else 0) := C_z M x 0 999
theorem C_isWindow (M : Mm) (x : Int32) : fX10_isWindow M x = some (if wi x 0 50 then 1 else 0) := C_z M x 0 50
theorem C_isKind (M : Mm) (x : Int32) : fX10_isKind M x = some (if wi x 0 7 then 1 else 0) := C_z M x 0 7
theorem C_isSlides (M : Mm) (x : Int32) : fX10_isSlides M x = some (if wi x 1 40 then 1 else 0) := C_z M x 1 40
theorem C_isPart (M : Mm) (x : Int32) : fX10_isPart M x = some (if wi x 0 1 then 1 else 0) := C_z M x 0 1
theorem C_isPeriod (M : Mm) (x : Int32) : fX10_isPeriod M x = some (if wi x 12 999 then 1 else 0) := C_z M x 12 999
theorem C_isLaw (M : Mm) (x : Int32) : fX10_isLaw M x = some (if wi x 0 5 then 1 else 0) := C_z M x 0 5
theorem C_isYear (M : Mm) (x : Int32) : fX10_isYear M x = some (if wi x 0 7 then 1 else 0) := C_z M x 0 7
theorem T_z (M : Mm) (x a b : Int32) {a' b' : Int64} (ha : a' = a.toInt64) (hb : b' = b.toInt64) : ((fX11_in M x.toInt64 a' b').bind fun v => (zr v).bind fun w => some w) = some (if wi x a b then 1 else 0) := by
  rw [T_in M ha hb]
  by_cases g : wi x a b
  · rw [if_pos g]; rfl
  · rw [if_neg g]; rfl
theorem T_isLine (M : Mm) (x : Int32) : fX11_isLine M x = some (if wi x 0 999 then 1 else 0) := T_z M x 0 999 (by decide) (by decide)
theorem T_isWindow (M : Mm) (x : Int32) : fX11_isWindow M x = some (if wi x 0 50 then 1 else 0) := T_z M x 0 50 (by decide) (by decide)
theorem T_isPeriod (M : Mm) (x : Int32) : fX11_isPeriod M x = some (if wi x 12 999 then 1 else 0) := T_z M x 12 999 (by decide) (by decide)
theorem T_isLaw (M : Mm) (x : Int32) : fX11_isLaw M x = some (if wi x 0 5 then 1 else 0) := T_z M x 0 5 (by decide) (by decide)
theorem T_isYear (M : Mm) (x : Int32) : fX11_isYear M x = some (if wi x 0 7 then 1 else 0) := T_z M x 0 7 (by decide) (by decide)
theorem T_isSheet (M : Mm) (x : Int32) : fX11_isSheet M x = some (if wi x 0 3 then 1 else 0) := T_z M x 0 3 (by decide) (by decide)
theorem T_mayRing (M : Mm) (x y : Int32) : fX11_mayRing M x y = some (if wi x 0 9999 ∧ wi y 1 999 then 1 else 0) := by
  unfold fX11_mayRing
  rw [T_in M (a := 0) (b := 9999) (by decide) (by decide), T_in M (a := 1) (b := 999) (by decide) (by decide)]
  simp only [Option.bind_some, gd]
  by_cases g1 : wi x 0 9999
  · by_cases g2 : wi y 1 999
    · rw [if_pos g1, if_pos g2, if_pos ⟨g1, g2⟩]
    · rw [if_pos g1, if_neg g2, if_neg (fun q => g2 q.2)]
  · rw [if_neg g1, if_neg (fun q => g1 q.1)]
def sp_ring (σ : Sg) (a b c : Int32) : An := if isB (g0 σ) a ∧ wi b 0 9999 ∧ wi c 1 999 then (if (sr (g0 σ) 2).length < 96 then (nI (sr (g0 σ) 2).length, adR σ a b c) else er σ 4) else er σ 1
theorem adR_len (σ : Sg) (a b c : Int32) : (sr (g0 (adR σ a b c)) 2).length = (sr (g0 σ) 2).length + 1 := by
  show (sr (g0 σ) 2 ++ [a]).length = _
  simp
theorem C_ring {M : Mm} {σ : Sg} (h : RelC M σ) (hI : Ig σ) (a b c : Int32) : DoC M (fX10_ring M 0 a b c) (sp_ring σ a b c) := by
  have hc : (sr (g0 σ) 2).length ≤ 96 := hI.1.L 2 (by decide)
  have J := DoC.er h (a := 1) 1 rfl (by decide)
  unfold fX10_ring sp_ring jX10_ring_22
  simp only [h.c, Option.bind_some, C_isBar h, C_isTenth, C_isHeight, gd]
  by_cases g : isB (g0 σ) a ∧ wi b 0 9999 ∧ wi c 1 999
  · rw [if_pos g, if_pos g.1, if_pos g.2.1, if_pos g.2.2]
    simp only [h.q0, Option.bind_some]
    by_cases hl : (sr (g0 σ) 2).length < 96
    · obtain ⟨M', e1, e2, e3⟩ := C_addRing h hI.1 a b c hl
      rw [if_pos hl]
      refine ⟨M', ?_, e2, e3⟩
      simp only [e1, bd2_s, i10, e2.q0, fX6_rings, e2.2.1.c, e2.f2, R_size e2.w2, Option.bind_some, adR_len, nI_pred]
    · rw [if_neg hl, C_addRing0 h a b c (by omega)]
      simp only [bd2_s, if_true]
      exact DoC.er h 4 rfl (by decide)
  · rw [if_neg g]
    (repeat' split) <;> first | exact J | exact absurd ⟨by assumption, by assumption, by assumption⟩ g
theorem T_ring {M : Mm} {σ : Sg} (h : RelT M σ) (hI : Ig σ) (a b c : Int32) : DoT M (fX11_ring_ M 137 a b c) (sp_ring σ a b c) := by
  have hc : (sr (g0 σ) 2).length ≤ 96 := hI.1.L 2 (by decide)
  obtain ⟨F, A, h1, r⟩ := id h
  have J := DoT.er h hI.2.2.1 (a := 1) 1 rfl (by decide)
  unfold fX11_ring_ sp_ring jX11_ring__16
  simp only [T_c h1, Option.bind_some, T_isBar h1 r, T_mayRing, gd, T_q0 h1, (T_cnt h1 r).2.1]
  by_cases g : isB (g0 σ) a ∧ wi b 0 9999 ∧ wi c 1 999
  · rw [if_pos g, if_pos g.1, if_pos g.2]
    by_cases hl : (sr (g0 σ) 2).length < 96
    · obtain ⟨M', e1, e2, e3⟩ := T_rings h1 r hI.1 a b c hl
      rw [if_pos hl, if_neg (fun q => by have := (nI_eq (a := (sr (g0 σ) 2).length) (b := 96) (by omega) (by decide)).mp q; omega)]
      refine ⟨M', ?_, e2, e3⟩
      obtain ⟨F2, A2, k1, k2⟩ := e2
      simp only [e1, T_q0 k1, (T_cnt k1 k2).2.1, Option.bind_some, adR_len, nI_pred]
    · rw [if_neg hl, if_pos (by rw [show (sr (g0 σ) 2).length = 96 by omega]; rfl)]
      exact DoT.er h hI.2.2.1 4 rfl (by decide)
  · rw [if_neg g]
    (repeat' split) <;> first | exact J | exact absurd ⟨by assumption, by assumption⟩ g
/-! quiet -/
def sp_quiet (σ : Sg) (a b : Int32) : An := if wi a 1 999 ∧ wi b 1 9999 then (if (sr (g0 σ) 10).length < 8 then (nI ((sr (g0 σ) 10).length + 1), adS (adS σ 10 a) 11 b) else er σ 4) else er σ 1
theorem C_quiet {M : Mm} {σ : Sg} (h : RelC M σ) (hI : Ig σ) (a b : Int32) : DoC M (fX10_quiet M 0 a b) (sp_quiet σ a b) := by
  have hc : (sr (g0 σ) 10).length ≤ 8 := hI.1.L 10 (by decide)
  obtain ⟨-, -, l11⟩ := hI.1.2.2.2.1
  have J := DoC.er h (a := 1) 1 rfl (by decide)
  unfold fX10_quiet sp_quiet jX10_quiet_18
  simp only [h.c, Option.bind_some, C_isHeight, C_within, gd]
  by_cases g : wi a 1 999 ∧ wi b 1 9999
  · rw [if_pos g, if_pos g.1, if_pos g.2]
    simp only [h.q0, h.f10, R_room h.w10, Option.bind_some]
    by_cases hl : (sr (g0 σ) 10).length < 8
    · obtain ⟨M1, e1, e2, e3⟩ := R_add h.w10 a hl
      have h1 := h.u10 e3 e2
      obtain ⟨M2, k1, k2, k3⟩ := R_add h1.w11 b (show (sr (g0 σ) 11).length < 8 by omega)
      have h2 := h1.u11 k3 k2
      rw [if_pos hl, if_neg (nI_ne0 (by omega) (by omega))]
      refine ⟨M2, ?_, h2, (e3.frC (fun q z => by omega)).trans (k3.frC (fun q z => by omega))⟩
      simp only [e1, bd2_s, h1.q0, h1.f11, k1, h2.q0, h2.f10, R_size h2.w10, Option.bind_some]
      show some (nI ((sr (g0 σ) 10 ++ [a]).length), M2) = _
      rw [List.length_append, List.length_singleton]
    · rw [if_neg hl, if_pos (by rw [show 8 - (sr (g0 σ) 10).length = 0 by omega]; rfl)]
      exact DoC.er h 4 rfl (by decide)
  · rw [if_neg g]
    (repeat' split) <;> first | exact J | exact absurd ⟨by assumption, by assumption⟩ g
