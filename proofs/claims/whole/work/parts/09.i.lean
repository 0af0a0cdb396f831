/-! both -/
def bo1 (σ : Sg) (ab : Int32) : Sg := adR (adR (zS σ (dz (dz (sz (g0 σ))))) (ab / 10) (dt (sz (g0 σ))) (dh (dz (sz (g0 σ))))) (rmI ab 10) (dt (sz (g0 σ))) (dh (dz (sz (g0 σ))))
def boN (ab : Int32) : Nat → Sg → Sg
  | 0, σ => σ
  | n + 1, σ => boN ab n (bo1 σ ab)
theorem bo1_len (σ : Sg) (ab : Int32) : (sr (g0 (bo1 σ ab)) 2).length = (sr (g0 σ) 2).length + 2 := by
  unfold bo1
  rw [adR_len, adR_len, zS_r]
theorem bo1_1 (σ : Sg) (ab : Int32) : sr (g0 (bo1 σ ab)) 1 = sr (g0 σ) 1 := by
  unfold bo1
  rw [adR_1, adR_1, zS_r]
theorem adR_B {σ : Sg} (a b c : Int32) {x : Int32} (h : isB (g0 σ) x) : isB (g0 (adR σ a b c)) x := h
theorem bo1_ok {σ : Sg} {ab : Int32} (h : Ig σ) (hb : isP (g0 σ) ab) (hl : (sr (g0 σ) 2).length + 1 < 96) : Ig (bo1 σ ab) ∧ isP (g0 (bo1 σ ab)) ab := by
  obtain ⟨b1, b2, b3, b4⟩ := hb
  refine ⟨?_, b1, by show wi (ab / 10) 0 (nI (sr (g0 (bo1 σ ab)) 1).length - 1); rw [bo1_1]; exact b2, by show wi (rmI ab 10) 0 (nI (sr (g0 (bo1 σ ab)) 1).length - 1); rw [bo1_1]; exact b3, b4⟩
  unfold bo1
  exact adR_I (adR_I (zS_I _ h) (zS_B _ b2) (dt_in _) (dh_in _) (by rw [zS_r]; omega)) (adR_B _ _ _ (zS_B _ b3)) (dt_in _) (dh_in _) (by rw [adR_len, zS_r]; omega)
theorem C_bothL {N : Nat} {ab : Int32} {n : Nat} (hn : n < 2 ^ 31) : ∀ (f i : Nat) (M : Mm) (σ : Sg), RelC M σ → Ig σ → isP (g0 σ) ab → i ≤ n → n - i < f → (sr (g0 σ) 2).length + 2 * (n - i) ≤ 96 → DoC M (LX10_both_48 N f M 0 ab (nI n) (nI i)) (nI ((sr (g0 σ) 2).length + 2 * (n - i)), boN ab (n - i) σ) := by
  intro f
  induction f with
  | zero => intro i M σ _ _ _ _ h; omega
  | succ f ih =>
    intro i M σ h hI hb h1 h2 h3
    show DoC M (BX10_both_48 N (LX10_both_48 N f) M 0 ab (nI n) (nI i)) _
    unfold BX10_both_48
    by_cases e : i = n
    · subst e
      rw [if_pos (nI_le (Nat.le_refl _) hn), Nat.sub_self]
      simp only [h.q0, fX6_rings, h.2.1.c, h.f2, R_size h.w2, Option.bind_some]
      exact DoC.same h
    · rw [if_neg (nI_ge (by omega) hn)]
      obtain ⟨M1, a1, a2, a3⟩ := C_dt h
      obtain ⟨M2, b1, b2, b3⟩ := C_dh a2
      rw [zS_z] at b1 b2
      rw [zS_zS] at b2
      obtain ⟨M3, c1, c2, c3⟩ := C_addRing b2 (zS_I _ hI).1 (ab / 10) (dt (sz (g0 σ))) (dh (dz (sz (g0 σ)))) (by rw [zS_r]; omega)
      have hI2 : Ig (adR (zS σ (dz (dz (sz (g0 σ))))) (ab / 10) (dt (sz (g0 σ))) (dh (dz (sz (g0 σ))))) := adR_I (zS_I _ hI) (zS_B _ hb.2.1) (dt_in _) (dh_in _) (by rw [zS_r]; omega)
      obtain ⟨M5, m1, m2, m3⟩ := C_addRing c2 hI2.1 (rmI ab 10) (dt (sz (g0 σ))) (dh (dz (sz (g0 σ)))) (by rw [adR_len, zS_r]; omega)
      obtain ⟨g1, g2⟩ := bo1_ok hI hb (show (sr (g0 σ) 2).length + 1 < 96 by omega)
      have m2 : RelC M5 (bo1 σ ab) := m2
      obtain ⟨M4, d1, d2, d3⟩ := ih (i + 1) M5 (bo1 σ ab) m2 g1 g2 (by omega) (by omega) (by rw [bo1_len]; omega)
      refine ⟨M4, ?_, ?_, (((a3.trans b3).trans c3).trans m3).trans d3⟩
      · simp only [h.q0, a1, bd2_s, a2.q0, b1, b2.q0, c1, c2.q0, m1, nI_1, Option.bind_some]
        rw [d1, bo1_len, show (sr (g0 σ) 2).length + 2 + 2 * (n - (i + 1)) = (sr (g0 σ) 2).length + 2 * (n - i) by omega]
      · rw [show n - i = n - (i + 1) + 1 by omega]
        exact d2
def sp_both (σ : Sg) (ab n : Int32) : An := if isP (g0 σ) ab ∧ wi n 1 10 then (if (sr (g0 σ) 2).length + 2 * n.toNatClampNeg ≤ 96 then (nI ((sr (g0 σ) 2).length + 2 * n.toNatClampNeg), boN ab n.toNatClampNeg σ) else er σ 4) else er σ 1
theorem C_both {N : Nat} {M : Mm} {σ : Sg} (h : RelC M σ) (hI : Ig σ) (hN : 2000 ≤ N) (ab n : Int32) : DoC M (fX10_both N M 0 ab n) (sp_both σ ab n) := by
  have hc : (sr (g0 σ) 2).length ≤ 96 := hI.1.L 2 (by decide)
  have J := DoC.er h (a := 1) 1 rfl (by decide)
  unfold fX10_both sp_both jX10_both_18
  simp only [h.c, Option.bind_some, C_isPair h, C_within, gd]
  by_cases g : isP (g0 σ) ab ∧ wi n 1 10
  · rw [if_pos g, if_pos g.1, if_pos g.2]
    obtain ⟨j, h0, hj, rfl⟩ := wi_ix1 (n := 10) (by decide) rfl g.2
    simp only [h.q0, h.f2, R_room h.w2, Option.bind_some]
    rw [nI_clamp (by omega), show (2 : Int32) * nI j = nI (2 * j) from pk_mul 2 j]
    by_cases hl : (sr (g0 σ) 2).length + 2 * j ≤ 96
    · rw [if_pos hl, if_pos (nI_le (by omega) (by omega)), ← nI_0]
      have q := C_bothL (N := N) (ab := ab) (n := j) (by omega) N 0 M σ h hI g.1 (by omega) (by omega) (by omega)
      rw [Nat.sub_zero] at q
      exact q
    · rw [if_neg hl, if_neg (nI_ge (by omega) (by omega))]
      exact DoC.er h 4 rfl (by decide)
  · rw [if_neg g]
    by_cases g1 : isP (g0 σ) ab
    · rw [if_pos g1, if_neg (fun q => g ⟨g1, q⟩)]; exact J
    · rw [if_neg g1]; exact J
theorem T_bothL {N : Nat} {ab : Int32} {n : Nat} (hn : n < 2 ^ 31) : ∀ (f i : Nat) (M : Mm) (σ : Sg), RelT M σ → Ig σ → isP (g0 σ) ab → i ≤ n → n - i < f → (sr (g0 σ) 2).length + 2 * (n - i) ≤ 96 → DoT M (LX11_both__49 N f M 137 ab (nI n) (nI i)) (nI ((sr (g0 σ) 2).length + 2 * (n - i)), boN ab (n - i) σ) := by
  intro f
  induction f with
  | zero => intro i M σ _ _ _ _ h; omega
  | succ f ih =>
    intro i M σ h hI hb h1 h2 h3
    obtain ⟨F, A, k1, k2⟩ := id h
    show DoT M (BX11_both__49 N (LX11_both__49 N f) M 137 ab (nI n) (nI i)) _
    unfold BX11_both__49
    by_cases e : i = n
    · subst e
      rw [if_pos (nI_le (Nat.le_refl _) hn), Nat.sub_self]
      simp only [T_q0 k1, (T_cnt k1 k2).2.1, Option.bind_some]
      exact DoT.same h
    · rw [if_neg (nI_ge (by omega) hn)]
      obtain ⟨M1, a1, a2, a3⟩ := T_draw k1 k2 hI.1
      obtain ⟨F1, A1, m1, m2⟩ := id a2
      obtain ⟨M2, b1, b2, b3⟩ := T_draw m1 m2 (zS_I _ hI).1
      rw [zS_z] at b1 b2
      rw [zS_zS] at b2
      obtain ⟨F2, A2, n1, n2⟩ := id b2
      obtain ⟨M3, c1, c2, c3⟩ := T_rings n1 n2 (zS_I _ hI).1 (ab / 10) (dt (sz (g0 σ))) (dh (dz (sz (g0 σ)))) (by rw [zS_r]; omega)
      have hI2 : Ig (adR (zS σ (dz (dz (sz (g0 σ))))) (ab / 10) (dt (sz (g0 σ))) (dh (dz (sz (g0 σ))))) := adR_I (zS_I _ hI) (zS_B _ hb.2.1) (dt_in _) (dh_in _) (by rw [zS_r]; omega)
      obtain ⟨F3, A3, o1, o2⟩ := id c2
      obtain ⟨M5, p1, p2, p3⟩ := T_rings o1 o2 hI2.1 (rmI ab 10) (dt (sz (g0 σ))) (dh (dz (sz (g0 σ)))) (by rw [adR_len, zS_r]; omega)
      obtain ⟨g1, g2⟩ := bo1_ok hI hb (show (sr (g0 σ) 2).length + 1 < 96 by omega)
      have p2 : RelT M5 (bo1 σ ab) := p2
      obtain ⟨M4, d1, d2, d3⟩ := ih (i + 1) M5 (bo1 σ ab) p2 g1 g2 (by omega) (by omega) (by rw [bo1_len]; omega)
      have ec : (1 : Int32) + rmI (dv (dz (sz (g0 σ)))) 999 = dh (dz (sz (g0 σ))) := Int32.add_comm _ _
      have c1 : fX11_rings M2 137 (ab / 10) (rmI (dv (sz (g0 σ))) 2400) (dh (dz (sz (g0 σ)))) = some M3 := c1
      have p1 : fX11_rings M3 137 (rmI ab 10) (rmI (dv (sz (g0 σ))) 2400) (dh (dz (sz (g0 σ)))) = some M5 := p1
      refine ⟨M4, ?_, ?_, (((a3.trans b3).trans c3).trans p3).trans d3⟩
      · simp only [a1, bd2_s, b1, ec, c1, p1, nI_1, Option.bind_some]
        rw [d1, bo1_len, show (sr (g0 σ) 2).length + 2 + 2 * (n - (i + 1)) = (sr (g0 σ) 2).length + 2 * (n - i) by omega]
      · rw [show n - i = n - (i + 1) + 1 by omega]
        exact d2
theorem T_both {N : Nat} {M : Mm} {σ : Sg} (h : RelT M σ) (hI : Ig σ) (hN : 2000 ≤ N) (ab n : Int32) : DoT M (fX11_both_ N M 137 ab n) (sp_both σ ab n) := by
  have hc : (sr (g0 σ) 2).length ≤ 96 := hI.1.L 2 (by decide)
  obtain ⟨F, A, h1, r⟩ := id h
  have J := DoT.er h hI.2.2.1 (a := 1) 1 rfl (by decide)
  unfold fX11_both_ sp_both jX11_both__20
  rw [T_in M (x := n) (a := 1) (b := 10) (by decide) (by decide)]
  simp only [T_c h1, Option.bind_some, T_isPair h1 r, gd, T_q0 h1, (T_cnt h1 r).2.1]
  by_cases g : isP (g0 σ) ab ∧ wi n 1 10
  · rw [if_pos g, if_pos g.1, if_pos g.2]
    obtain ⟨j, h0, hj, rfl⟩ := wi_ix1 (n := 10) (by decide) rfl g.2
    rw [nI_clamp (by omega), show (2 : Int32) * nI j = nI (2 * j) from pk_mul 2 j, nI_add]
    by_cases hl : (sr (g0 σ) 2).length + 2 * j ≤ 96
    · rw [if_pos hl, if_pos (show nI ((sr (g0 σ) 2).length + 2 * j) ≤ (96 : Int32) from nI_le (b := 96) hl (by decide)), ← nI_0]
      have q := T_bothL (N := N) (ab := ab) (n := j) (by omega) N 0 M σ h hI g.1 (by omega) (by omega) (by omega)
      rw [Nat.sub_zero] at q
      exact q
    · rw [if_neg hl, if_neg (show ¬ nI ((sr (g0 σ) 2).length + 2 * j) ≤ (96 : Int32) from nI_ge (a := 96) (by omega) (by omega))]
      exact DoT.er h hI.2.2.1 4 rfl (by decide)
  · rw [if_neg g]
    by_cases g1 : isP (g0 σ) ab
    · rw [if_pos g1, if_neg (fun q => g ⟨g1, q⟩)]; exact J
    · rw [if_neg g1]; exact J
/-! bound -/
def lon (S : St) (h : Int32) : Nat → Nat
  | 0 => 0
  | i + 1 => if h < (sr S 10).getD i 0 then lon S h i else Nat.max (lon S h i) ((sr S 11).getD i 0).toNatClampNeg
theorem lon_s (S : St) (h : Int32) (i : Nat) : lon S h (i + 1) = if h < (sr S 10).getD i 0 then lon S h i else Nat.max (lon S h i) ((sr S 11).getD i 0).toNatClampNeg := rfl
def sp_bound (σ : Sg) (a : Int32) : An := if wi a 1 999 then (if lon (g0 σ) a (sr (g0 σ) 10).length = 0 then er σ 2 else (nI (30000 / lon (g0 σ) a (sr (g0 σ) 10).length), σ)) else er σ 1
theorem span_in {S : St} (h : Iv S) {i : Nat} (hi : i < (sr S 11).length) : ∃ k, 1 ≤ k ∧ k ≤ 9999 ∧ (sr S 11).getD i 0 = nI k := by
  have q := h.1 11 (by decide) ((sr S 11).getD i 0) (by
    rw [List.getD_eq_getElem?_getD, List.getElem?_eq_getElem hi]
    exact List.getElem_mem hi)
  exact wi_ix1 (n := 9999) (by decide) rfl q
theorem lon_in {S : St} (h : Iv S) (a : Int32) : ∀ i, i ≤ (sr S 11).length → lon S a i ≤ 9999 := by
  intro i
  induction i with
  | zero => intro _; exact Nat.zero_le _
  | succ i ih =>
    intro hi
    obtain ⟨k, k1, k2, k3⟩ := span_in h (show i < (sr S 11).length by omega)
    have q := ih (by omega)
    unfold lon
    rw [k3, nI_clamp (by omega)]
    split
    · exact q
    · exact Nat.max_le.mpr ⟨q, k2⟩
theorem C_boundL {N : Nat} {M : Mm} {σ : Sg} (h : RelC M σ) (hI : Ig σ) (a : Int32) : ∀ (f i : Nat), i ≤ (sr (g0 σ) 10).length → (sr (g0 σ) 10).length - i < f → DoC M (LX10_bound_17 N f M 0 a (nI (lon (g0 σ) a i)) (nI i)) (if lon (g0 σ) a (sr (g0 σ) 10).length = 0 then er σ 2 else (nI (30000 / lon (g0 σ) a (sr (g0 σ) 10).length), σ)) := by
  have hc : (sr (g0 σ) 10).length ≤ 8 := hI.1.L 10 (by decide)
  obtain ⟨-, -, l11⟩ := hI.1.2.2.2.1
  intro f
  induction f with
  | zero => intro i _ h; omega
  | succ f ih =>
    intro i h1 h2
    have lq := lon_in hI.1 a i (by omega)
    show DoC M (BX10_bound_17 N (LX10_bound_17 N f) M 0 a (nI (lon (g0 σ) a i)) (nI i)) _
    unfold BX10_bound_17
    simp only [h.q0, h.f10, h.f11, R_size h.w10, R_at h.w10, R_at h.w11, lg_nI (show i < 2 ^ 31 by omega), Option.bind_some]
    by_cases e : i = (sr (g0 σ) 10).length
    · rw [if_pos (nI_le (by omega) (by omega)), ← e]
      by_cases z : lon (g0 σ) a i = 0
      · rw [if_pos z, z, if_pos nI_0]
        exact DoC.er h 2 rfl (by decide)
      · rw [if_neg z, if_neg (nI_ne0 (by omega) (by omega))]
        have ed : dI 30000 (nI (lon (g0 σ) a i)) = some (nI (30000 / lon (g0 σ) a i)) := by
          unfold dI
          rw [if_neg (nI_ne0 (by omega) (by omega)), show (30000 : Int32) / nI (lon (g0 σ) a i) = nI (30000 / lon (g0 σ) a i) from pk_div (a := 30000) (by decide) (by omega) (by omega)]
        rw [ed]
        exact DoC.same h
    · rw [if_neg (nI_ge (by omega) (by omega)), nI_1]
      obtain ⟨k, k1, k2, k3⟩ := span_in hI.1 (show i < (sr (g0 σ) 11).length by omega)
      have q := ih (i + 1) (by omega) (by omega)
      by_cases g : a < (sr (g0 σ) 10).getD i 0
      · rw [if_pos g]
        rw [show lon (g0 σ) a (i + 1) = lon (g0 σ) a i from if_pos g] at q
        exact q
      · rw [if_neg g, k3]
        rw [show lon (g0 σ) a (i + 1) = Nat.max (lon (g0 σ) a i) k from by rw [lon_s, if_neg g, k3, nI_clamp (by omega)]] at q
        have em : fJ9_max_7cf53 M (nI (lon (g0 σ) a i)) (nI k) = some (nI (Nat.max (lon (g0 σ) a i) k)) := by
          unfold fJ9_max_7cf53
          by_cases z : lon (g0 σ) a i < k
          · rw [if_pos (nI_lt z (by omega)), show Nat.max (lon (g0 σ) a i) k = k from Nat.max_eq_right (by omega)]
          · rw [if_neg (nI_nlt (by omega) (by omega)), show Nat.max (lon (g0 σ) a i) k = lon (g0 σ) a i from Nat.max_eq_left (by omega)]
        rw [em]
        exact q
theorem C_bound {N : Nat} {M : Mm} {σ : Sg} (h : RelC M σ) (hI : Ig σ) (hN : 2000 ≤ N) (a : Int32) : DoC M (fX10_bound N M 0 a) (sp_bound σ a) := by
  have hc : (sr (g0 σ) 10).length ≤ 8 := hI.1.L 10 (by decide)
  unfold fX10_bound sp_bound
  simp only [h.c, Option.bind_some, C_isHeight, gd]
  by_cases g : wi a 1 999
  · rw [if_pos g, if_pos g]
    exact C_boundL h hI a N 0 (by omega) (by omega)
  · rw [if_neg g, if_neg g]
    exact DoC.er h 1 rfl (by decide)
def bes (S : St) (a : Int32) (i : Nat) : Int32 := if lon S a i = 0 then -1 else nI (30000 / lon S a i)
theorem T_boundL {N : Nat} {M : Mm} {F : Nat → Int32} {A : Nat → Nat → Int32} {σ : Sg} (k1 : TwAt M F A) (k2 : TwR F A σ) (hI : Ig σ) (a : Int32) : ∀ (f i : Nat), i ≤ (sr (g0 σ) 10).length → (sr (g0 σ) 10).length - i < f → DoT M (LX11_bound_22 N f M 137 a (bes (g0 σ) a i) (nI i)) (if lon (g0 σ) a (sr (g0 σ) 10).length = 0 then er σ 2 else (nI (30000 / lon (g0 σ) a (sr (g0 σ) 10).length), σ)) := by
  have h : RelT M σ := ⟨F, A, k1, k2⟩
  have hc : (sr (g0 σ) 10).length ≤ 8 := hI.1.L 10 (by decide)
  obtain ⟨-, -, l11⟩ := hI.1.2.2.2.1
  intro f
  induction f with
  | zero => intro i _ h; omega
  | succ f ih =>
    intro i h1 h2
    have lq := lon_in hI.1 a i (by omega)
    show DoT M (BX11_bound_22 N (LX11_bound_22 N f) M 137 a (bes (g0 σ) a i) (nI i)) _
    unfold BX11_bound_22
    simp only [T_q0 k1, (T_cnt k1 k2).2.2.2.2.2.1, Option.bind_some]
    by_cases e : i = (sr (g0 σ) 10).length
    · rw [if_pos (nI_le (by omega) (by omega)), ← e]
      unfold bes
      by_cases z : lon (g0 σ) a i = 0
      · rw [if_pos z, if_pos z, if_neg (by decide)]
        exact DoT.er h hI.2.2.1 2 rfl (by decide)
      · have : 30000 / lon (g0 σ) a i ≤ 30000 := Nat.div_le_self _ _
        rw [if_neg z, if_neg z, if_pos (nI_pos' (by omega))]
        exact DoT.same h
    · rw [if_neg (nI_ge (by omega) (by omega)), nI_1]
      obtain ⟨k, q1, q2, q3⟩ := span_in hI.1 (show i < (sr (g0 σ) 11).length by omega)
      have b10 := tix_in 10 (by decide) i (show i < 8 by omega)
      have b11 := tix_in 11 (by decide) i (show i < 8 by omega)
      have ex2 : (382 : Int32) + (2 : Int32) * nI i = nI (tix 10 i) := by
        rw [show (2 : Int32) * nI i = nI (2 * i) from pk_mul 2 i]
        exact nI_add 382 (2 * i)
      have ex3 : nI (tix 10 i) + (1 : Int32) = nI (tix 11 i) := by
        rw [nI_1]
        show nI (382 + 2 * i + 1) = nI (383 + 2 * i)
        rw [show 382 + 2 * i + 1 = 383 + 2 * i by omega]
      have r11 : aI M 0 138 (nI (tix 11 i)) = some (nI k) := by
        rw [T_m k1 (by omega), k2.1.2.1 11 (by decide) i (by omega), q3]
      have r10 : aI M 0 138 (nI (tix 10 i)) = some ((sr (g0 σ) 10).getD i 0) := by
        rw [T_m k1 (by omega), k2.1.2.1 10 (by decide) i (by omega)]
      have ed : dI 30000 (nI k) = some (nI (30000 / k)) := by
        unfold dI
        rw [if_neg (nI_ne0 (by omega) (by omega)), show (30000 : Int32) / nI k = nI (30000 / k) from pk_div (a := 30000) (by decide) (by omega) (by omega)]
      simp only [ex2, ex3, r11, r10, ed, Option.bind_some]
      have q := ih (i + 1) (by omega) (by omega)
      by_cases g : a < (sr (g0 σ) 10).getD i 0
      · rw [if_pos g]
        rw [show bes (g0 σ) a (i + 1) = bes (g0 σ) a i from by unfold bes; rw [lon_s, if_pos g]] at q
        exact q
      · rw [if_neg g]
        have el : lon (g0 σ) a (i + 1) = Nat.max (lon (g0 σ) a i) k := by rw [lon_s, if_neg g, q3, nI_clamp (by omega)]
        have hk : 30000 / k ≤ 30000 := Nat.div_le_self _ _
        by_cases z : lon (g0 σ) a i = 0
        · have e1 : bes (g0 σ) a i = -1 := if_pos z
          have e2 : bes (g0 σ) a (i + 1) = nI (30000 / k) := by
            unfold bes
            rw [el, z, show Nat.max 0 k = k from Nat.max_eq_right (by omega), if_neg (by omega)]
          rw [e1, if_pos (by decide)]
          rw [e2] at q
          exact q
        · have e1 : bes (g0 σ) a i = nI (30000 / lon (g0 σ) a i) := if_neg z
          have hl : 30000 / lon (g0 σ) a i ≤ 30000 := Nat.div_le_self _ _
          rw [e1, if_neg (nI_pos (by omega))]
          by_cases y : lon (g0 σ) a i < k
          · have e2 : bes (g0 σ) a (i + 1) = nI (30000 / k) := by
              unfold bes
              rw [el, show Nat.max (lon (g0 σ) a i) k = k from Nat.max_eq_right (by omega), if_neg (by omega)]
            have d1 : 30000 / k ≤ 30000 / lon (g0 σ) a i := Nat.div_le_div_left (by omega) (by omega)
            rw [e2] at q
            by_cases w : 30000 / lon (g0 σ) a i ≤ 30000 / k
            · rw [if_pos (nI_le w (by omega)), show 30000 / lon (g0 σ) a i = 30000 / k by omega]
              exact q
            · rw [if_neg (nI_ge (by omega) (by omega))]
              exact q
          · have e2 : bes (g0 σ) a (i + 1) = nI (30000 / lon (g0 σ) a i) := by
              unfold bes
              rw [el, show Nat.max (lon (g0 σ) a i) k = lon (g0 σ) a i from Nat.max_eq_left (by omega), if_neg z]
            have d1 : 30000 / lon (g0 σ) a i ≤ 30000 / k := Nat.div_le_div_left (by omega) (by omega)
            rw [e2] at q
            rw [if_pos (nI_le d1 (by omega))]
            exact q
theorem T_bound {N : Nat} {M : Mm} {σ : Sg} (h : RelT M σ) (hI : Ig σ) (hN : 2000 ≤ N) (a : Int32) : DoT M (fX11_bound N M 137 a) (sp_bound σ a) := by
  have hc : (sr (g0 σ) 10).length ≤ 8 := hI.1.L 10 (by decide)
  obtain ⟨F, A, k1, k2⟩ := id h
  unfold fX11_bound sp_bound
  rw [T_in M (x := a) (a := 1) (b := 999) (by decide) (by decide)]
  simp only [T_c k1, Option.bind_some, gd]
  by_cases g : wi a 1 999
  · rw [if_pos g, if_pos g]
    exact T_boundL k1 k2 hI a N 0 (by omega) (by omega)
  · rw [if_neg g, if_neg g]
    exact DoT.er h hI.2.2.1 1 rfl (by decide)
