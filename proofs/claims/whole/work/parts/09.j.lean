/-! feed -/
theorem sh_u (w : Int64) {j : Nat} (hj : j < 64) {s : UInt64} (hs : s.toNat = j) : (w.toUInt64 >>> s).toInt64.toBitVec = w.toBitVec >>> j := by
  apply BitVec.eq_of_toNat_eq
  show (w.toUInt64 >>> s).toNat = _
  rw [UInt64.toNat_shiftRight, hs, Nat.mod_eq_of_lt hj, BitVec.toNat_ushiftRight]
  rfl
theorem sh_s (w : Int64) {j : Nat} {s : Int64} (hs : (s.toBitVec.smod 64).toNat = j) : (w >>> s).toBitVec = w.toBitVec.sshiftRight j := by
  rw [Int64.toBitVec_shiftRight]
  show w.toBitVec.sshiftRight _ = _
  rw [hs]
theorem b255 : ∀ i, i < 64 → (255#64).getLsbD i = decide (i < 8) := by decide
theorem sh_e (x : BitVec 64) {j : Nat} (hj : j ≤ 56) : x >>> j &&& 255#64 = x.sshiftRight j &&& 255#64 := by
  apply BitVec.eq_of_getLsbD_eq
  intro i hi
  rw [BitVec.getLsbD_and, BitVec.getLsbD_and, BitVec.getLsbD_ushiftRight, BitVec.getLsbD_sshiftRight, b255 i hi]
  by_cases g : i < 8
  · have h1 : decide (64 ≤ i) = false := decide_eq_false (by omega)
    rw [if_pos (show j + i < 64 by omega), h1]
    rfl
  · simp [g]
def fb (w : Int64) (k : Nat) : Int32 := ((w.toUInt64 >>> (((8 : Int32) * nI k).toInt64.toUInt64 &&& Int64.toUInt64 63)).toInt64 &&& 255).toInt32
theorem fb_s : ∀ k, k < 8 → (((8 : Int32) * nI k).toInt64.toUInt64 &&& Int64.toUInt64 63).toNat = 8 * k ∧ (((((8 : Int32) * nI k).toInt64 &&& 63)).toBitVec.smod 64).toNat = 8 * k := by decide
theorem fb_eq (w : Int64) {k : Nat} (hk : k < 8) : ((w >>> (((8 : Int32) * nI k).toInt64 &&& 63)) &&& 255).toInt32 = fb w k := by
  unfold fb
  congr 1
  apply Int64.toBitVec_inj.mp
  rw [Int64.toBitVec_and, Int64.toBitVec_and, sh_u w (by omega) (fb_s k hk).1, sh_s w (fb_s k hk).2]
  exact (sh_e _ (by omega)).symm
theorem fb_in (w : Int64) (k : Nat) : wi (fb w k) 0 255 := by
  unfold fb
  obtain ⟨x, hx⟩ : ∃ x, x = (w.toUInt64 >>> (((8 : Int32) * nI k).toInt64.toUInt64 &&& Int64.toUInt64 63)).toInt64 := ⟨_, rfl⟩
  rw [← hx]
  have e : x &&& 255 = lN (x.toBitVec.toNat % 256) := by
    apply Int64.toBitVec_inj.mp
    apply BitVec.eq_of_toNat_eq
    rw [Int64.toBitVec_and, BitVec.toNat_and]
    show x.toBitVec.toNat &&& 255 = (BitVec.ofNat 64 _).toNat
    rw [BitVec.toNat_ofNat, Nat.mod_eq_of_lt (by omega), show (255 : Nat) = 2 ^ 8 - 1 from rfl, Nat.and_two_pow_sub_one_eq_mod]
  rw [e, lN_i]
  exact ⟨nI_pos (by omega), nI_nlt (a := 255) (b := x.toBitVec.toNat % 256) (by omega) (by decide)⟩
def fdN (w : Int64) (i : Nat) : Nat → Sg → Sg
  | 0, σ => σ
  | n + 1, σ => fdN w (i + 1) n (adS σ 5 (fb w i))
theorem adS5_len (σ : Sg) (v : Int32) : (sr (g0 (adS σ 5 v)) 5).length = (sr (g0 σ) 5).length + 1 := by
  show (sr (g0 σ) 5 ++ [v]).length = _
  simp
theorem adS5_I {σ : Sg} {v : Int32} (h : Ig σ) (hv : wi v 0 255) (hl : (sr (g0 σ) 5).length < 50) : Ig (adS σ 5 v) := by
  refine ⟨Iv.row (S := g0 σ) (i := 5) h.1 (Or.inl rfl) (by simp; exact hl) (fun _ x q => ?_), h.2⟩
  rcases List.mem_append.mp q with q | q
  · exact h.1.1 5 (by decide) x q
  · rw [List.mem_singleton.mp q]; exact hv
theorem C_feedL {N : Nat} {w : Int64} {n : Nat} (hn : n ≤ 8) : ∀ (f i : Nat) (M : Mm) (σ : Sg), RelC M σ → Ig σ → i ≤ n → n - i < f → (sr (g0 σ) 5).length + (n - i) ≤ 50 → DoC M (LX10_feed_39 N f M 0 w (nI n) (nI i)) (nI ((sr (g0 σ) 5).length + (n - i)), fdN w i (n - i) σ) := by
  intro f
  induction f with
  | zero => intro i M σ _ _ _ h; omega
  | succ f ih =>
    intro i M σ h hI h1 h2 h3
    show DoC M (BX10_feed_39 N (LX10_feed_39 N f) M 0 w (nI n) (nI i)) _
    unfold BX10_feed_39
    by_cases e : i = n
    · subst e
      rw [if_pos (nI_le (Nat.le_refl _) (by omega)), Nat.sub_self]
      simp only [h.q0, h.f5, R_size h.w5, Option.bind_some]
      exact DoC.same h
    · rw [if_neg (nI_ge (by omega) (by omega))]
      obtain ⟨M1, e1, e2, e3⟩ := R_add h.w5 (fb w i) (show (sr (g0 σ) 5).length < 50 by omega)
      have h' : RelC M1 (adS σ 5 (fb w i)) := h.u5 e3 e2
      obtain ⟨M4, d1, d2, d3⟩ := ih (i + 1) M1 (adS σ 5 (fb w i)) h' (adS5_I hI (fb_in w i) (by omega)) (by omega) (by omega) (by rw [adS5_len]; omega)
      unfold fb at e1
      refine ⟨M4, ?_, ?_, (e3.frC (fun q z => by omega)).trans d3⟩
      · simp only [h.q0, h.f5, e1, bd2_s, nI_1, Option.bind_some]
        rw [d1, adS5_len, show (sr (g0 σ) 5).length + 1 + (n - (i + 1)) = (sr (g0 σ) 5).length + (n - i) by omega]
      · rw [show n - i = n - (i + 1) + 1 by omega]
        exact d2
theorem T_feedL {N : Nat} {w : Int64} {n : Nat} (hn : n ≤ 8) : ∀ (f i : Nat) (M : Mm) (σ : Sg), RelT M σ → Ig σ → i ≤ n → n - i < f → (sr (g0 σ) 5).length + (n - i) ≤ 50 → DoT M (LX11_feed_41 N f M 137 w (nI n) (nI i)) (nI ((sr (g0 σ) 5).length + (n - i)), fdN w i (n - i) σ) := by
  intro f
  induction f with
  | zero => intro i M σ _ _ _ h; omega
  | succ f ih =>
    intro i M σ h hI h1 h2 h3
    obtain ⟨F, A, k1, k2⟩ := id h
    have c6 := (T_cnt k1 k2).2.2.2.2.2.2.1
    show DoT M (BX11_feed_41 N (LX11_feed_41 N f) M 137 w (nI n) (nI i)) _
    unfold BX11_feed_41
    by_cases e : i = n
    · subst e
      rw [if_pos (nI_le (Nat.le_refl _) (by omega)), Nat.sub_self]
      simp only [T_q0 k1, c6, Option.bind_some]
      exact DoT.same h
    · rw [if_neg (nI_ge (by omega) (by omega))]
      obtain ⟨M1, M2, e1, e2, e3, e4, e5, e6, e7, e8⟩ := T_addrow k1 k2 hI.1 (i := 5) (by decide) (show (sr (g0 σ) 5).length < 50 by omega) (fb w i)
      have ex : (412 : Int32) + nI (sr (g0 σ) 5).length = nI (tix 5 (sr (g0 σ) 5).length) := by rw [show tix 5 (sr (g0 σ) 5).length = 412 + (sr (g0 σ) 5).length from by simp [tix, tb, ts]]; exact nI_add 412 _
      have e3' : aI M1 0 138 6 = some (nI (sr (g0 σ) 5).length) := e3
      have e4' : sI M1 0 138 6 (nI (sr (g0 σ) 5).length + 1) = some M2 := e4
      obtain ⟨M4, d1, d2, d3⟩ := ih (i + 1) M2 (adS σ 5 (fb w i)) e7 (adS5_I hI (fb_in w i) (by omega)) (by omega) (by omega) (by rw [adS5_len]; omega)
      refine ⟨M4, ?_, ?_, e8.trans d3⟩
      · simp only [T_q0 k1, c6, Option.bind_some, fb_eq w (show i < 8 by omega), ex, e1, e2, e3', e4']
        rw [nI_1, d1, adS5_len, show (sr (g0 σ) 5).length + 1 + (n - (i + 1)) = (sr (g0 σ) 5).length + (n - i) by omega]
      · rw [show n - i = n - (i + 1) + 1 by omega]
        exact d2
def sp_feed (σ : Sg) (w : Int64) (n : Int32) : An := if wi n 1 8 then (if (sr (g0 σ) 5).length + n.toNatClampNeg ≤ 50 then (nI ((sr (g0 σ) 5).length + n.toNatClampNeg), fdN w 0 n.toNatClampNeg σ) else er σ 4) else er σ 1
theorem C_feed {N : Nat} {M : Mm} {σ : Sg} (h : RelC M σ) (hI : Ig σ) (hN : 2000 ≤ N) (w : Int64) (n : Int32) : DoC M (fX10_feed N M 0 w n) (sp_feed σ w n) := by
  have hc : (sr (g0 σ) 5).length ≤ 50 := hI.1.L 5 (by decide)
  unfold fX10_feed sp_feed
  simp only [h.c, Option.bind_some, C_within, gd]
  by_cases g : wi n 1 8
  · rw [if_pos g, if_pos g]
    obtain ⟨j, h0, hj, rfl⟩ := wi_ix1 (n := 8) (by decide) rfl g
    simp only [h.q0, h.f5, R_room h.w5, Option.bind_some]
    rw [nI_clamp (by omega)]
    by_cases hl : (sr (g0 σ) 5).length + j ≤ 50
    · rw [if_pos hl, if_pos (nI_le (by omega) (by omega)), ← nI_0]
      have q := C_feedL (N := N) (w := w) (n := j) hj N 0 M σ h hI (by omega) (by omega) (by omega)
      rw [Nat.sub_zero] at q
      exact q
    · rw [if_neg hl, if_neg (nI_ge (by omega) (by omega))]
      exact DoC.er h 4 rfl (by decide)
  · rw [if_neg g, if_neg g]
    exact DoC.er h 1 rfl (by decide)
theorem T_feed {N : Nat} {M : Mm} {σ : Sg} (h : RelT M σ) (hI : Ig σ) (hN : 2000 ≤ N) (w : Int64) (n : Int32) : DoT M (fX11_feed N M 137 w n) (sp_feed σ w n) := by
  have hc : (sr (g0 σ) 5).length ≤ 50 := hI.1.L 5 (by decide)
  obtain ⟨F, A, k1, k2⟩ := id h
  unfold fX11_feed sp_feed
  rw [T_in M (x := n) (a := 1) (b := 8) (by decide) (by decide)]
  simp only [T_c k1, Option.bind_some, gd, T_q0 k1, (T_cnt k1 k2).2.2.2.2.2.2.1]
  by_cases g : wi n 1 8
  · rw [if_pos g, if_pos g]
    obtain ⟨j, h0, hj, rfl⟩ := wi_ix1 (n := 8) (by decide) rfl g
    rw [nI_clamp (by omega), nI_add]
    by_cases hl : (sr (g0 σ) 5).length + j ≤ 50
    · rw [if_pos hl, if_pos (show nI ((sr (g0 σ) 5).length + j) ≤ (50 : Int32) from nI_le (b := 50) hl (by decide)), ← nI_0]
      have q := T_feedL (N := N) (w := w) (n := j) hj N 0 M σ h hI (by omega) (by omega) (by omega)
      rw [Nat.sub_zero] at q
      exact q
    · rw [if_neg hl, if_neg (show ¬ nI ((sr (g0 σ) 5).length + j) ≤ (50 : Int32) from nI_ge (a := 50) (by omega) (by omega))]
      exact DoT.er h hI.2.2.1 4 rfl (by decide)
  · rw [if_neg g, if_neg g]
    exact DoT.er h hI.2.2.1 1 rfl (by decide)
