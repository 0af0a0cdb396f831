/-! quiet, bound, gone -/
def TwB (f : Nat → Int32) (S : St) : Prop := (∀ i, i < 13 → ∀ j, j < (sr S i).length → f (tix i j) = (sr S i).getD j 0) ∧ (∀ c, c < (sk S).length → ∀ w, w < 5 → f (306 + 5 * c + w) = ((sk S).getD c []).getD (w + 1) 0) ∧ ∀ u, u < 9 → TwT f u (sx S u)
theorem TwB.put {f : Nat → Int32} {S : St} {i : Nat} {v : Int32} (h : TwB f S) (hL : ∀ i, i < 13 → (sr S i).length ≤ rc i) (hk : (sk S).length ≤ 12) (hi : i < 13) (hj : (sr S i).length < rc i) : TwB (upd f (tix i (sr S i).length) v) (srow S i (sr S i ++ [v])) ∧ ∀ p, p < 9 → upd f (tix i (sr S i).length) v p = f p := by
  have b := tix_in i hi _ hj
  obtain ⟨h1, h2, h3⟩ := h
  refine ⟨⟨fun k hk' l hl => ?_, fun c hc w hw => ?_, fun u hu => (h3 u hu).up b.2.1⟩, fun p hp => pk_un (by omega)⟩
  · rw [sr_row] at hl ⊢
    by_cases e : k = i
    · subst e
      rw [if_pos rfl] at hl ⊢
      rw [getD_app]
      simp at hl
      by_cases e2 : l = (sr S k).length
      · subst e2
        rw [pk_us, if_pos rfl]
      · rw [if_neg e2, pk_un (fun q => e2 (tix_inj hi (by omega) hi hj q).2)]
        exact h1 k hk' l (by omega)
    · rw [if_neg e] at hl ⊢
      rw [pk_un (fun q => e (tix_inj hk' (Nat.lt_of_lt_of_le hl (hL k hk')) hi hj q).1)]
      exact h1 k hk' l hl
  · rw [pk_un (by have : c < 12 := Nat.lt_of_lt_of_le hc hk; omega)]
    exact h2 c hc w hw
theorem TwB.cnt {f : Nat → Int32} {S : St} {p : Nat} {v : Int32} (h : TwB f S) (hL : ∀ i, i < 13 → (sr S i).length ≤ rc i) (hp : p < 9) : TwB (upd f p v) S := by
  obtain ⟨h1, h2, h3⟩ := h
  refine ⟨fun k hk' l hl => ?_, fun c hc w hw => ?_, fun u hu => (h3 u hu).up (by omega)⟩
  · rw [pk_un (by have := tix_in k hk' l (Nat.lt_of_lt_of_le hl (hL k hk')); omega)]
    exact h1 k hk' l hl
  · rw [pk_un (by omega)]
    exact h2 c hc w hw
theorem rowL {S : St} {i : Nat} {ys : List Int32} (hL : ∀ i, i < 13 → (sr S i).length ≤ rc i) (h : ys.length ≤ rc i) : ∀ j, j < 13 → (sr (srow S i ys) j).length ≤ rc j := fun j hj => by
  rw [sr_row]
  by_cases e : j = i
  · subst e; rw [if_pos rfl]; exact h
  · rw [if_neg e]; exact hL j hj
theorem T_quiet {M : Mm} {σ : Sg} (h : RelT M σ) (hI : Ig σ) (a b : Int32) : DoT M (fX11_quiet M 137 a b) (sp_quiet σ a b) := by
  have hc : (sr (g0 σ) 10).length ≤ 8 := hI.1.L 10 (by decide)
  obtain ⟨-, -, l11⟩ := hI.1.2.2.2.1
  obtain ⟨F, A, h1, r⟩ := id h
  have J := DoT.er h hI.2.2.1 (a := 1) 1 rfl (by decide)
  unfold fX11_quiet sp_quiet jX11_quiet_24
  rw [T_in M (a := 1) (b := 999) (by decide) (by decide), T_in M (a := 1) (b := 9999) (by decide) (by decide)]
  simp only [T_c h1, Option.bind_some, gd, T_q0 h1, (T_cnt h1 r).2.2.2.2.2.1]
  by_cases g : wi a 1 999 ∧ wi b 1 9999
  · rw [if_pos g, if_pos g.1, if_pos g.2]
    by_cases hl : (sr (g0 σ) 10).length < 8
    · obtain ⟨n, hn⟩ : ∃ n, n = (sr (g0 σ) 10).length := ⟨_, rfl⟩
      have b2 := tix_in 10 (by decide) n (show n < 8 by omega)
      have b3 := tix_in 11 (by decide) n (show n < 8 by omega)
      have ex2 : (382 : Int32) + (2 : Int32) * nI n = nI (tix 10 n) := by
        rw [show (2 : Int32) * nI n = nI (2 * n) from pk_mul 2 n]
        exact nI_add 382 (2 * n)
      have ex3 : nI (tix 10 n) + (1 : Int32) = nI (tix 11 n) := by
        rw [nI_1]
        show nI (382 + 2 * n + 1) = nI (383 + 2 * n)
        rw [show 382 + 2 * n + 1 = 383 + 2 * n by omega]
      obtain ⟨M1, e1, e2, e3⟩ := T_mp h1 (j := tix 10 n) (by omega) a
      obtain ⟨M2, f1, f2, f3⟩ := T_mp e2 (j := tix 11 n) (by omega) b
      have c1' : aI M2 0 138 5 = some (nI n) := by
        have q := T_m f2 (j := 5) (by decide)
        rw [u2_0, pk_un (by omega), u2_0, pk_un (by omega), r.1.1.2.2.2.2.2.1, ← hn] at q
        exact q
      obtain ⟨M4, n1, n2, n3⟩ := T_mp f2 (j := 5) (by decide) (nI (n + 1))
      have n1' : sI M2 0 138 5 (nI (n + 1)) = some M4 := n1
      rw [if_pos hl, ← hn, if_neg (fun q => by have := (nI_eq (a := n) (b := 8) (by omega) (by decide)).mp q; omega)]
      refine ⟨M4, ?_, ⟨F, _, n2, r.m0 ?_ (fun k hk => by rw [u2_n hk, u2_n hk, u2_n hk])⟩, (e3.trans f3).trans n3⟩
      · simp only [ex2, e1, T_q0 e2, ex3, f1, T_q0 f2, c1', nI_1, n1', Option.bind_some]
      · rw [u2_0, u2_0, u2_0]
        have p1 := TwB.put (i := 10) (v := a) r.1.2 hI.1.L hI.1.K (by decide) (show (sr (g0 σ) 10).length < 8 from hl)
        have L1 := rowL (i := 10) (ys := sr (g0 σ) 10 ++ [a]) hI.1.L (show (sr (g0 σ) 10 ++ [a]).length ≤ 8 by simp; omega)
        have p2 := TwB.put (i := 11) (v := b) p1.1 L1 hI.1.K (by decide) (show (sr (g0 σ) 11).length < 8 by omega)
        have L2 := rowL (i := 11) (ys := sr (g0 σ) 11 ++ [b]) L1 (show (sr (g0 σ) 11 ++ [b]).length ≤ 8 by simp; omega)
        have e11 : (sr (srow (g0 σ) 10 (sr (g0 σ) 10 ++ [a])) 11).length = n := by
          show (sr (g0 σ) 11).length = n
          omega
        rw [← hn] at p1
        rw [e11, ← hn] at p2
        have p3 := TwB.cnt (p := 5) (v := nI (n + 1)) p2.1 L2 (by decide)
        obtain ⟨⟨c0, c1, c2, c3, c4, c5, c6, c7, c8⟩, -⟩ := r.1
        have gg : ∀ p, p < 9 → p ≠ 5 → upd (upd (upd (A 0) (tix 10 n) a) (tix 11 n) b) 5 (nI (n + 1)) p = A 0 p := fun p q z => by rw [pk_un z, p2.2 p q, p1.2 p q]
        refine ⟨⟨?_, ?_, ?_, ?_, ?_, ?_, ?_, ?_, ?_⟩, p3⟩
        · rw [gg 0 (by decide) (by decide)]; exact c0
        · rw [gg 1 (by decide) (by decide)]; exact c1
        · rw [gg 2 (by decide) (by decide)]; exact c2
        · rw [gg 3 (by decide) (by decide)]; exact c3
        · rw [gg 4 (by decide) (by decide)]; exact c4
        · rw [pk_us]
          show nI (n + 1) = nI (sr (g0 σ) 10 ++ [a]).length
          rw [List.length_append, List.length_singleton, ← hn]
        · rw [gg 6 (by decide) (by decide)]; exact c6
        · rw [gg 7 (by decide) (by decide)]; exact c7
        · rw [gg 8 (by decide) (by decide)]; exact c8
    · rw [if_neg hl, if_pos (by rw [show (sr (g0 σ) 10).length = 8 by omega]; rfl)]
      exact DoT.er h hI.2.2.1 4 rfl (by decide)
  · rw [if_neg g]
    (repeat' split) <;> first | exact J | exact absurd ⟨by assumption, by assumption⟩ g
/-! gone -/
def gin (l : Int32) : Nat → Int32 → Int32
  | 0, x => x
  | n + 1, x => gin l n (x - (x * l + 999) / 1000)
def gyr (m l : Int32) (n : Nat) : Nat → Nat → Int32 → Option Nat
  | 0, _, _ => none
  | k + 1, y, x => if m ≤ 2 * gin l n x then gyr m l n k (y + 1) (gin l n x) else some y
def sp_gone (σ : Sg) (m l n : Int32) : An := if wi m 1 99999 ∧ wi l 1 999 ∧ wi n 1 9 then (match gyr m l n.toNatClampNeg 999 1 m with
  | some y => (nI y, σ)
  | none => er σ 2) else er σ 1
theorem C_goneI {N : Nat} {K : Mm → Nat → Int32 → Int32 → Int32 → Int32 → Int32 → Option (Int32 × Mm)} {M : Mm} {m l y : Int32} {n : Nat} (hn : n < 2 ^ 31) : ∀ (f i : Nat) (x : Int32), i ≤ n → n - i < f → LX10_gone_55 N K f M 0 m l (nI n) x y (nI i) = if m ≤ 2 * gin l (n - i) x then K M 0 m l (nI n) (gin l (n - i) x) (y + 1) else some (y, M) := by
  intro f
  induction f with
  | zero => intro i x _ h; omega
  | succ f ih =>
    intro i x h1 h2
    show BX10_gone_55 N K (LX10_gone_55 N K f) M 0 m l (nI n) x y (nI i) = _
    unfold BX10_gone_55
    by_cases e : i = n
    · subst e
      rw [if_pos (nI_le (Nat.le_refl _) hn), Nat.sub_self]
      rfl
    · rw [if_neg (nI_ge (by omega) hn), nI_1, ih (i + 1) _ (by omega) (by omega), show n - i = n - (i + 1) + 1 by omega]
      rfl
theorem T_goneI {N : Nat} {K : Mm → Nat → Int32 → Int32 → Int32 → Int32 → Int32 → Option (Int32 × Mm)} {M : Mm} {m l y : Int32} {n : Nat} (hn : n < 2 ^ 31) : ∀ (f i : Nat) (x : Int32), i ≤ n → n - i < f → LX11_gone_59 N K f M 137 m l (nI n) x y (nI i) = if m ≤ 2 * gin l (n - i) x then K M 137 m l (nI n) (gin l (n - i) x) (y + 1) else some (y, M) := by
  intro f
  induction f with
  | zero => intro i x _ h; omega
  | succ f ih =>
    intro i x h1 h2
    show BX11_gone_59 N K (LX11_gone_59 N K f) M 137 m l (nI n) x y (nI i) = _
    unfold BX11_gone_59
    by_cases e : i = n
    · subst e
      rw [if_pos (nI_le (Nat.le_refl _) hn), Nat.sub_self]
      rfl
    · rw [if_neg (nI_ge (by omega) hn), nI_1, ih (i + 1) _ (by omega) (by omega), show n - i = n - (i + 1) + 1 by omega]
      rfl
theorem C_goneY {N : Nat} {M : Mm} {σ : Sg} (h : RelC M σ) {m l : Int32} {n : Nat} (hn : n < 1000) (hN : 2000 ≤ N) : ∀ (k f y : Nat) (x : Int32), y + k = 1000 → k < f → DoC M (LX10_gone_44 N f M 0 m l (nI n) x (nI y)) (match gyr m l n k y x with
  | some y => (nI y, σ)
  | none => er σ 2) := by
  intro k
  induction k with
  | zero =>
    intro f y x h1 h2
    obtain ⟨f, rfl⟩ : ∃ g, f = g + 1 := ⟨f - 1, by omega⟩
    show DoC M (BX10_gone_44 N (LX10_gone_44 N f) M 0 m l (nI n) x (nI y)) _
    unfold BX10_gone_44
    rw [show y = 1000 by omega, if_pos (by decide)]
    exact DoC.er h 2 rfl (by decide)
  | succ k ih =>
    intro f y x h1 h2
    obtain ⟨f, rfl⟩ : ∃ g, f = g + 1 := ⟨f - 1, by omega⟩
    show DoC M (BX10_gone_44 N (LX10_gone_44 N f) M 0 m l (nI n) x (nI y)) _
    unfold BX10_gone_44
    rw [if_neg (show ¬ (999 : Int32) < nI y from nI_nlt (a := 999) (b := y) (by omega) (by decide)), ← nI_0, C_goneI (by omega) N 0 x (by omega) (by omega), Nat.sub_zero]
    unfold gyr
    by_cases g : m ≤ 2 * gin l n x
    · rw [if_pos g, if_pos g, nI_1]
      exact ih f (y + 1) _ (by omega) (by omega)
    · rw [if_neg g, if_neg g]
      exact DoC.same h
theorem T_goneY {N : Nat} {M : Mm} {σ : Sg} (h : RelT M σ) (hg : (ge σ).length = 6) {m l : Int32} {n : Nat} (hn : n < 1000) (hN : 2000 ≤ N) : ∀ (k f y : Nat) (x : Int32), y + k = 1000 → k < f → DoT M (LX11_gone_48 N f M 137 m l (nI n) x (nI y)) (match gyr m l n k y x with
  | some y => (nI y, σ)
  | none => er σ 2) := by
  intro k
  induction k with
  | zero =>
    intro f y x h1 h2
    obtain ⟨f, rfl⟩ : ∃ g, f = g + 1 := ⟨f - 1, by omega⟩
    show DoT M (BX11_gone_48 N (LX11_gone_48 N f) M 137 m l (nI n) x (nI y)) _
    unfold BX11_gone_48
    rw [show y = 1000 by omega, if_pos (by decide)]
    exact DoT.er h hg 2 rfl (by decide)
  | succ k ih =>
    intro f y x h1 h2
    obtain ⟨f, rfl⟩ : ∃ g, f = g + 1 := ⟨f - 1, by omega⟩
    show DoT M (BX11_gone_48 N (LX11_gone_48 N f) M 137 m l (nI n) x (nI y)) _
    unfold BX11_gone_48
    rw [if_neg (show ¬ (1000 : Int32) ≤ nI y from nI_ge (a := y) (b := 1000) (by omega) (by decide)), ← nI_0, T_goneI (by omega) N 0 x (by omega) (by omega), Nat.sub_zero]
    unfold gyr
    by_cases g : m ≤ 2 * gin l n x
    · rw [if_pos g, if_pos g, nI_1]
      exact ih f (y + 1) _ (by omega) (by omega)
    · rw [if_neg g, if_neg g]
      exact DoT.same h
theorem C_gone {N : Nat} {M : Mm} {σ : Sg} (h : RelC M σ) (hN : 2000 ≤ N) (m l n : Int32) : DoC M (fX10_gone N M 0 m l n) (sp_gone σ m l n) := by
  have J := DoC.er h (a := 1) 1 rfl (by decide)
  unfold fX10_gone sp_gone jX10_gone_32
  simp only [h.c, Option.bind_some, C_within, gd]
  by_cases g : wi m 1 99999 ∧ wi l 1 999 ∧ wi n 1 9
  · rw [if_pos g, if_pos g.1, if_pos g.2.1, if_pos g.2.2]
    obtain ⟨j, -, hj, rfl⟩ := wi_ix1 (n := 9) (by decide) rfl g.2.2
    rw [nI_clamp (by omega)]
    exact C_goneY h (by omega) hN 999 N 1 m (by omega) (by omega)
  · rw [if_neg g]
    (repeat' split) <;> first | exact J | exact absurd ⟨by assumption, by assumption, by assumption⟩ g
theorem T_gone {N : Nat} {M : Mm} {σ : Sg} (h : RelT M σ) (hI : Ig σ) (hN : 2000 ≤ N) (m l n : Int32) : DoT M (fX11_gone N M 137 m l n) (sp_gone σ m l n) := by
  obtain ⟨F, A, h1, r⟩ := id h
  have J := DoT.er h hI.2.2.1 (a := 1) 1 rfl (by decide)
  unfold fX11_gone sp_gone jX11_gone_36
  rw [T_in M (x := m) (a := 1) (b := 99999) (by decide) (by decide), T_in M (x := l) (a := 1) (b := 999) (by decide) (by decide), T_in M (x := n) (a := 1) (b := 9) (by decide) (by decide)]
  simp only [T_c h1, Option.bind_some, gd]
  by_cases g : wi m 1 99999 ∧ wi l 1 999 ∧ wi n 1 9
  · rw [if_pos g, if_pos g.1, if_pos g.2.1, if_pos g.2.2]
    obtain ⟨j, -, hj, rfl⟩ := wi_ix1 (n := 9) (by decide) rfl g.2.2
    rw [nI_clamp (by omega)]
    exact T_goneY h hI.2.2.1 (by omega) hN 999 N 1 m (by omega) (by omega)
  · rw [if_neg g]
    (repeat' split) <;> first | exact J | exact absurd ⟨by assumption, by assumption, by assumption⟩ g
