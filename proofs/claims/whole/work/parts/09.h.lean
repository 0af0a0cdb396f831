/-! what holds of every state stays -/
theorem okP.mono {n n' : Nat} {x : Int32} (h : okP n x) (hn : n ≤ n') : okP n' x := by
  obtain ⟨a, b, h1, h2, h3⟩ := h
  exact ⟨a, b, by omega, by omega, h3⟩
theorem okC.mono {n n' c : Nat} {l : List Int32} (h : okC n c l) (hn : n ≤ n') : okC n' c l := ⟨h.1, h.2.1, h.2.2.1, h.2.2.2.1.mono hn, h.2.2.2.2⟩
theorem Iv.row {S : St} {i : Nat} {ys : List Int32} (h : Iv S) (hi : i = 5 ∨ i = 6 ∨ i = 7 ∨ i = 12 ∨ ((i = 0 ∨ i = 8 ∨ i = 9) ∧ ys.length = (sr S i).length)) (hl : ys.length ≤ rc i) (hx : i < 12 → ∀ x ∈ ys, wi x (rlo i) (rhi i)) : Iv (srow S i ys) := by
  obtain ⟨h1, h2, ⟨h3, h4, h5⟩, h6, h7, h8⟩ := h
  have n1 : sr (srow S i ys) 1 = sr S 1 := by rw [sr_row, if_neg (by omega)]
  have n2 : sr (srow S i ys) 2 = sr S 2 := by rw [sr_row, if_neg (by omega)]
  have n3 : sr (srow S i ys) 3 = sr S 3 := by rw [sr_row, if_neg (by omega)]
  have n4 : sr (srow S i ys) 4 = sr S 4 := by rw [sr_row, if_neg (by omega)]
  have n10 : sr (srow S i ys) 10 = sr S 10 := by rw [sr_row, if_neg (by omega)]
  have n11 : sr (srow S i ys) 11 = sr S 11 := by rw [sr_row, if_neg (by omega)]
  refine ⟨fun k hk x q => ?_, by rw [n1, n2]; exact h2, ⟨?_, ?_, ?_⟩, by rw [n2, n3, n4, n10, n11]; exact h6, rowL h7 hl, by rw [n1]; exact h8⟩
  · rw [sr_row] at q
    by_cases e : k = i
    · subst e; rw [if_pos rfl] at q; exact hx hk x q
    · rw [if_neg e] at q; exact h1 k hk x q
  · rw [sr_row]
    by_cases e : 0 = i
    · subst e; rw [if_pos rfl, ← h3]; rcases hi with q | q | q | q | q <;> first | omega | exact q.2
    · rw [if_neg e]; exact h3
  · rw [sr_row]
    by_cases e : 8 = i
    · subst e; rw [if_pos rfl, ← h4]; rcases hi with q | q | q | q | q <;> first | omega | exact q.2
    · rw [if_neg e]; exact h4
  · rw [sr_row]
    by_cases e : 9 = i
    · subst e; rw [if_pos rfl, ← h5]; rcases hi with q | q | q | q | q <;> first | omega | exact q.2
    · rw [if_neg e]; exact h5
theorem Iv.bar {S : St} {a : Int32} (h : Iv S) (ha : wi a 0 2) (hl : (sr S 1).length < 6) : Iv (srow S 1 (sr S 1 ++ [a])) := by
  obtain ⟨h1, h2, h3, h6, h7, h8, h9, h10⟩ := h
  have e1 : (sr (srow S 1 (sr S 1 ++ [a])) 1).length = (sr S 1).length + 1 := by
    show (sr S 1 ++ [a]).length = _
    simp
  refine ⟨fun k hk x q => ?_, fun x q => ?_, h3, h6, rowL h7 (by simp; exact hl), h8, h9, fun c hc => by rw [e1]; exact (h10 c hc).mono (by omega)⟩
  · rw [sr_row] at q
    by_cases e : k = 1
    · subst e
      rw [if_pos rfl] at q
      rcases List.mem_append.mp q with q | q
      · exact h1 1 hk x q
      · rw [List.mem_singleton.mp q]; exact ha
    · rw [if_neg e] at q; exact h1 k hk x q
  · rw [e1]
    have g := h2 x q
    exact Int32.lt_trans g (nI_lt (by omega) (by omega))
theorem Iv.ring {S : St} {a b c : Int32} (h : Iv S) (ha : isB S a) (hb : wi b 0 9999) (hc : wi c 1 999) (hl : (sr S 2).length < 96) : Iv (srow (srow (srow S 2 (sr S 2 ++ [a])) 3 (sr S 3 ++ [b])) 4 (sr S 4 ++ [c])) := by
  obtain ⟨h1, h2, h3, ⟨h4, h5, h6⟩, h7, h8, h9, h10⟩ := h
  have n1 : (sr S 1).length ≤ 6 := h7 1 (by decide)
  obtain ⟨j, hj, rfl⟩ := (wi_n (by omega)).mp ha
  refine ⟨fun k hk x q => ?_, fun x q => ?_, h3, ⟨?_, ?_, h6⟩, rowL (rowL (rowL h7 ?_) ?_) ?_, h8, h9, h10⟩
  · rw [sr_row] at q
    by_cases e4 : k = 4
    · subst e4
      rw [if_pos rfl] at q
      rcases List.mem_append.mp q with q | q
      · exact h1 4 hk x q
      · rw [List.mem_singleton.mp q]; exact hc
    · rw [if_neg e4, sr_row] at q
      by_cases e3 : k = 3
      · subst e3
        rw [if_pos rfl] at q
        rcases List.mem_append.mp q with q | q
        · exact h1 3 hk x q
        · rw [List.mem_singleton.mp q]; exact hb
      · rw [if_neg e3, sr_row] at q
        by_cases e2 : k = 2
        · subst e2
          rw [if_pos rfl] at q
          rcases List.mem_append.mp q with q | q
          · exact h1 2 hk x q
          · rw [List.mem_singleton.mp q]
            exact ⟨nI_pos (by omega), nI_nlt (a := 5) (b := j) (by omega) (by decide)⟩
        · rw [if_neg e2] at q; exact h1 k hk x q
  · have q : x ∈ sr S 2 ++ [nI j] := q
    show x < nI (sr S 1).length
    rcases List.mem_append.mp q with q | q
    · exact h2 x q
    · rw [List.mem_singleton.mp q]; exact nI_lt hj (by omega)
  · show (sr S 3 ++ [b]).length = (sr S 2 ++ [nI j]).length
    simp; omega
  · show (sr S 4 ++ [c]).length = (sr S 2 ++ [nI j]).length
    simp; omega
  · show (sr S 2 ++ [nI j]).length ≤ 96
    simp; omega
  · show (sr S 3 ++ [b]).length ≤ 96
    simp; omega
  · show (sr S 4 ++ [c]).length ≤ 96
    simp; omega
theorem Iv.quiet {S : St} {a b : Int32} (h : Iv S) (ha : wi a 1 999) (hb : wi b 1 9999) (hl : (sr S 10).length < 8) : Iv (srow (srow S 10 (sr S 10 ++ [a])) 11 (sr S 11 ++ [b])) := by
  obtain ⟨h1, h2, h3, ⟨h4, h5, h6⟩, h7, h8, h9, h10⟩ := h
  refine ⟨fun k hk x q => ?_, h2, h3, ⟨h4, h5, ?_⟩, rowL (rowL h7 ?_) ?_, h8, h9, h10⟩
  · rw [sr_row] at q
    by_cases e4 : k = 11
    · subst e4
      rw [if_pos rfl] at q
      rcases List.mem_append.mp q with q | q
      · exact h1 11 hk x q
      · rw [List.mem_singleton.mp q]; exact hb
    · rw [if_neg e4, sr_row] at q
      by_cases e3 : k = 10
      · subst e3
        rw [if_pos rfl] at q
        rcases List.mem_append.mp q with q | q
        · exact h1 10 hk x q
        · rw [List.mem_singleton.mp q]; exact ha
      · rw [if_neg e3] at q; exact h1 k hk x q
  · show (sr S 11 ++ [b]).length = (sr S 10 ++ [a]).length
    simp; omega
  · show (sr S 10 ++ [a]).length ≤ 8
    simp; omega
  · show (sr S 11 ++ [b]).length ≤ 8
    simp; omega
/-! draws -/
def dz (z : Int32) : Int32 := z * 1103515245 + 12345
def dv (z : Int32) : Int32 := ((dz z).toUInt32 >>> ((8 : Int32).toUInt32 &&& Int32.toUInt32 31)).toInt32
def zS (σ : Sg) (a : Int32) : Sg := (((g0 σ).1, (g0 σ).2.1, (g0 σ).2.2.1, a), σ.2)
theorem zS_r (σ : Sg) (a : Int32) : sr (g0 (zS σ a)) = sr (g0 σ) := rfl
theorem zS_z (σ : Sg) (a : Int32) : sz (g0 (zS σ a)) = a := rfl
theorem zS_zS (σ : Sg) (a b : Int32) : zS (zS σ a) b = zS σ b := rfl
theorem zS_I {σ : Sg} (a : Int32) (h : Ig σ) : Ig (zS σ a) := ⟨h.1, h.2⟩
theorem zS_B {σ : Sg} (a : Int32) {x : Int32} (h : isB (g0 σ) x) : isB (g0 (zS σ a)) x := h
theorem adR_I {σ : Sg} {a b c : Int32} (h : Ig σ) (ha : isB (g0 σ) a) (hb : wi b 0 9999) (hc : wi c 1 999) (hl : (sr (g0 σ) 2).length < 96) : Ig (adR σ a b c) := ⟨Iv.ring h.1 ha hb hc hl, h.2⟩
theorem adR_1 (σ : Sg) (a b c : Int32) : sr (g0 (adR σ a b c)) 1 = sr (g0 σ) 1 := rfl
theorem C_draw {M : Mm} {σ : Sg} (h : RelC M σ) : ∃ M', fX6_draw M 1 = some (dv (sz (g0 σ)), M') ∧ RelC M' (zS σ (dz (sz (g0 σ)))) ∧ FrC M M' := by
  obtain ⟨M', e1, e2, e3⟩ := h.2.1.zz (dz (sz (g0 σ)))
  refine ⟨M', ?_, h.now (e3.mono (fun k q => by omega)) e2, e3.frC (fun q z => by omega)⟩
  have e1' : pF M 6 1 16 (.int (sz (g0 σ) * 1103515245 + 12345)) = some M' := e1
  have ez : gI M' 6 1 16 = some (dz (sz (g0 σ))) := e2.z
  simp only [fX6_draw, h.2.1.c, h.2.1.z, e1', ez, Option.bind_some]
  rfl
theorem T_draw {M : Mm} {F : Nat → Int32} {A : Nat → Nat → Int32} {σ : Sg} (h : TwAt M F A) (r : TwR F A σ) (hI : Iv (g0 σ)) : ∃ M', fX11_draw M 137 = some (dv (sz (g0 σ)), M') ∧ RelT M' (zS σ (dz (sz (g0 σ)))) ∧ FrT M M' := by
  obtain ⟨M1, e1, e2, e3⟩ := T_mp h (j := 8) (by decide) (dz (sz (g0 σ)))
  have e1' : sI M 0 138 8 (sz (g0 σ) * 1103515245 + 12345) = some M1 := e1
  have eg : aI M1 0 138 8 = some (dz (sz (g0 σ))) := by
    have q := T_m e2 (j := 8) (by decide)
    rw [u2_0, pk_us] at q
    exact q
  refine ⟨M1, ?_, ⟨F, _, e2, r.m0 (r.1.z8 hI.L _) (fun k hk => u2_n hk)⟩, e3⟩
  simp only [fX11_draw, T_c h, T_q0 h, (T_cnt h r).2.2.2.2.2.2.2.2, e1', T_q0 e2, eg, Option.bind_some]
  rfl
theorem dv_lo (z : Int32) : ∃ k : Nat, k < 2 ^ 24 ∧ dv z = nI k := by
  obtain ⟨n, hn, e⟩ : ∃ n : Nat, n < 2 ^ 32 ∧ dz z = nI n := ⟨(dz z).toBitVec.toNat, (dz z).toBitVec.isLt, by
    apply Int32.toBitVec_inj.mp
    simp [nI]⟩
  refine ⟨n / 2 ^ 8, by omega, ?_⟩
  unfold dv
  rw [e]
  exact pk_ushrN hn 8 8 (by decide)
def dt (z : Int32) : Int32 := rmI (dv z) 2400
def dh (z : Int32) : Int32 := rmI (dv z) 999 + 1
theorem dt_in (z : Int32) : wi (dt z) 0 9999 := by
  obtain ⟨k, hk, e⟩ := dv_lo z
  have q : dt z = nI (k % 2400) := by
    unfold dt
    rw [e]
    exact pk_rem (d := 2400) (by omega) (by decide) (by decide)
  rw [q]
  exact ⟨nI_pos (by omega), nI_nlt (a := 9999) (b := k % 2400) (by omega) (by decide)⟩
theorem dh_in (z : Int32) : wi (dh z) 1 999 := by
  obtain ⟨k, hk, e⟩ := dv_lo z
  have q : dh z = nI (k % 999 + 1) := by
    unfold dh
    rw [e, show rmI (nI k) 999 = nI (k % 999) from pk_rem (d := 999) (by omega) (by decide) (by decide), nI_1]
  rw [q]
  exact ⟨nI_nlt (a := k % 999 + 1) (b := 1) (by omega) (by omega), nI_nlt (a := 999) (b := k % 999 + 1) (by omega) (by decide)⟩
def md1 (σ : Sg) (bar : Int32) : Sg := adR (zS σ (dz (dz (sz (g0 σ))))) bar (dt (sz (g0 σ))) (dh (dz (sz (g0 σ))))
def mdN (bar : Int32) : Nat → Sg → Sg
  | 0, σ => σ
  | n + 1, σ => mdN bar n (md1 σ bar)
theorem md1_len (σ : Sg) (bar : Int32) : (sr (g0 (md1 σ bar)) 2).length = (sr (g0 σ) 2).length + 1 := by
  unfold md1
  rw [adR_len, zS_r]
theorem md1_1 (σ : Sg) (bar : Int32) : sr (g0 (md1 σ bar)) 1 = sr (g0 σ) 1 := by
  unfold md1
  rw [adR_1, zS_r]
theorem md1_ok {σ : Sg} {bar : Int32} (h : Ig σ) (hb : isB (g0 σ) bar) (hl : (sr (g0 σ) 2).length < 96) : Ig (md1 σ bar) ∧ isB (g0 (md1 σ bar)) bar := by
  refine ⟨?_, by show wi bar 0 (nI (sr (g0 (md1 σ bar)) 1).length - 1); rw [md1_1]; exact hb⟩
  unfold md1
  exact adR_I (zS_I _ h) (zS_B _ hb) (dt_in _) (dh_in _) (by rw [zS_r]; exact hl)
theorem C_dt {M : Mm} {σ : Sg} (h : RelC M σ) : ∃ M', fX6_drawTenth M 1 = some (dt (sz (g0 σ)), M') ∧ RelC M' (zS σ (dz (sz (g0 σ)))) ∧ FrC M M' := by
  obtain ⟨M', e1, e2, e3⟩ := C_draw h
  exact ⟨M', by simp only [fX6_drawTenth, h.2.1.c, e1, bd2_s, Option.bind_some]; rfl, e2, e3⟩
theorem C_dh {M : Mm} {σ : Sg} (h : RelC M σ) : ∃ M', fX6_drawHeight M 1 = some (dh (sz (g0 σ)), M') ∧ RelC M' (zS σ (dz (sz (g0 σ)))) ∧ FrC M M' := by
  obtain ⟨M', e1, e2, e3⟩ := C_draw h
  exact ⟨M', by simp only [fX6_drawHeight, h.2.1.c, e1, bd2_s, Option.bind_some]; rfl, e2, e3⟩
theorem C_madeL {N : Nat} {bar : Int32} {n : Nat} (hn : n < 2 ^ 31) : ∀ (f i : Nat) (M : Mm) (σ : Sg), RelC M σ → Ig σ → isB (g0 σ) bar → i ≤ n → n - i < f → (sr (g0 σ) 2).length + (n - i) ≤ 96 → DoC M (LX10_made_46 N f M 0 bar (nI n) (nI i)) (nI ((sr (g0 σ) 2).length + (n - i)), mdN bar (n - i) σ) := by
  intro f
  induction f with
  | zero => intro i M σ _ _ _ _ h; omega
  | succ f ih =>
    intro i M σ h hI hb h1 h2 h3
    show DoC M (BX10_made_46 N (LX10_made_46 N f) M 0 bar (nI n) (nI i)) _
    unfold BX10_made_46
    by_cases e : i = n
    · subst e
      rw [if_pos (nI_le (Nat.le_refl _) hn), Nat.sub_self]
      simp only [h.q0, fX6_rings, h.2.1.c, h.f2, R_size h.w2, Option.bind_some]
      exact DoC.same h
    · rw [if_neg (nI_ge (by omega) hn)]
      obtain ⟨M1, a1, a2, a3⟩ := C_dt h
      obtain ⟨M2, b1, b2, b3⟩ := C_dh a2
      rw [zS_z] at b1 b2
      rw [zS_zS] at b2
      obtain ⟨M3, c1, c2, c3⟩ := C_addRing b2 (zS_I _ hI).1 bar (dt (sz (g0 σ))) (dh (dz (sz (g0 σ)))) (by rw [zS_r]; omega)
      obtain ⟨g1, g2⟩ := md1_ok hI hb (show (sr (g0 σ) 2).length < 96 by omega)
      have c2 : RelC M3 (md1 σ bar) := c2
      obtain ⟨M4, d1, d2, d3⟩ := ih (i + 1) M3 (md1 σ bar) c2 g1 g2 (by omega) (by omega) (by rw [md1_len]; omega)
      refine ⟨M4, ?_, ?_, ((a3.trans b3).trans c3).trans d3⟩
      · simp only [h.q0, a1, bd2_s, a2.q0, b1, c1, nI_1, Option.bind_some]
        rw [d1, md1_len, show (sr (g0 σ) 2).length + 1 + (n - (i + 1)) = (sr (g0 σ) 2).length + (n - i) by omega]
      · rw [show n - i = n - (i + 1) + 1 by omega]
        exact d2
def sp_made (σ : Sg) (bar n : Int32) : An := if isB (g0 σ) bar ∧ wi n 1 20 then (if (sr (g0 σ) 2).length + n.toNatClampNeg ≤ 96 then (nI ((sr (g0 σ) 2).length + n.toNatClampNeg), mdN bar n.toNatClampNeg σ) else er σ 4) else er σ 1
theorem C_made {N : Nat} {M : Mm} {σ : Sg} (h : RelC M σ) (hI : Ig σ) (hN : 2000 ≤ N) (bar n : Int32) : DoC M (fX10_made N M 0 bar n) (sp_made σ bar n) := by
  have hc : (sr (g0 σ) 2).length ≤ 96 := hI.1.L 2 (by decide)
  have J := DoC.er h (a := 1) 1 rfl (by decide)
  unfold fX10_made sp_made jX10_made_18
  simp only [h.c, Option.bind_some, C_isBar h, C_within, gd]
  by_cases g : isB (g0 σ) bar ∧ wi n 1 20
  · rw [if_pos g, if_pos g.1, if_pos g.2]
    obtain ⟨j, h0, hj, rfl⟩ := wi_ix1 (n := 20) (by decide) rfl g.2
    simp only [h.q0, h.f2, R_room h.w2, Option.bind_some]
    rw [nI_clamp (by omega)]
    by_cases hl : (sr (g0 σ) 2).length + j ≤ 96
    · rw [if_pos hl, if_pos (nI_le (by omega) (by omega)), ← nI_0]
      have q := C_madeL (N := N) (bar := bar) (n := j) (by omega) N 0 M σ h hI g.1 (by omega) (by omega) (by omega)
      rw [Nat.sub_zero] at q
      exact q
    · rw [if_neg hl, if_neg (nI_ge (by omega) (by omega))]
      exact DoC.er h 4 rfl (by decide)
  · rw [if_neg g]
    (repeat' split) <;> first | exact J | exact absurd ⟨by assumption, by assumption⟩ g
theorem T_madeL {N : Nat} {bar : Int32} {n : Nat} (hn : n < 2 ^ 31) : ∀ (f i : Nat) (M : Mm) (σ : Sg), RelT M σ → Ig σ → isB (g0 σ) bar → i ≤ n → n - i < f → (sr (g0 σ) 2).length + (n - i) ≤ 96 → DoT M (LX11_made_47 N f M 137 bar (nI n) (nI i)) (nI ((sr (g0 σ) 2).length + (n - i)), mdN bar (n - i) σ) := by
  intro f
  induction f with
  | zero => intro i M σ _ _ _ _ h; omega
  | succ f ih =>
    intro i M σ h hI hb h1 h2 h3
    obtain ⟨F, A, k1, k2⟩ := id h
    show DoT M (BX11_made_47 N (LX11_made_47 N f) M 137 bar (nI n) (nI i)) _
    unfold BX11_made_47
    by_cases e : i = n
    · subst e
      rw [if_pos (nI_le (Nat.le_refl _) hn), Nat.sub_self]
      simp only [T_q0 k1, (T_cnt k1 k2).2.1, Option.bind_some]
      exact DoT.same h
    · rw [if_neg (nI_ge (by omega) hn)]
      obtain ⟨M1, a1, a2, a3⟩ := T_draw k1 k2 hI.1
      obtain ⟨F1, A1, m1, m2⟩ := id a2
      obtain ⟨M2, b1, b2, b3⟩ := T_draw m1 m2 (zS_I _ hI).1
      rw [zS_z] at b1 b2
      rw [zS_zS] at b2
      obtain ⟨F2, A2, n1, n2⟩ := id b2
      obtain ⟨M3, c1, c2, c3⟩ := T_rings n1 n2 (zS_I _ hI).1 bar (dt (sz (g0 σ))) (dh (dz (sz (g0 σ)))) (by rw [zS_r]; omega)
      obtain ⟨g1, g2⟩ := md1_ok hI hb (show (sr (g0 σ) 2).length < 96 by omega)
      have c2 : RelT M3 (md1 σ bar) := c2
      obtain ⟨M4, d1, d2, d3⟩ := ih (i + 1) M3 (md1 σ bar) c2 g1 g2 (by omega) (by omega) (by rw [md1_len]; omega)
      have ec : (1 : Int32) + rmI (dv (dz (sz (g0 σ)))) 999 = dh (dz (sz (g0 σ))) := Int32.add_comm _ _
      have c1 : fX11_rings M2 137 bar (rmI (dv (sz (g0 σ))) 2400) (dh (dz (sz (g0 σ)))) = some M3 := c1
      refine ⟨M4, ?_, ?_, ((a3.trans b3).trans c3).trans d3⟩
      · simp only [a1, bd2_s, b1, ec, c1, nI_1, Option.bind_some]
        rw [d1, md1_len, show (sr (g0 σ) 2).length + 1 + (n - (i + 1)) = (sr (g0 σ) 2).length + (n - i) by omega]
      · rw [show n - i = n - (i + 1) + 1 by omega]
        exact d2
theorem T_made {N : Nat} {M : Mm} {σ : Sg} (h : RelT M σ) (hI : Ig σ) (hN : 2000 ≤ N) (bar n : Int32) : DoT M (fX11_made N M 137 bar n) (sp_made σ bar n) := by
  have hc : (sr (g0 σ) 2).length ≤ 96 := hI.1.L 2 (by decide)
  obtain ⟨F, A, h1, r⟩ := id h
  have J := DoT.er h hI.2.2.1 (a := 1) 1 rfl (by decide)
  unfold fX11_made sp_made jX11_made_20
  rw [T_in M (x := n) (a := 1) (b := 20) (by decide) (by decide)]
  simp only [T_c h1, Option.bind_some, T_isBar h1 r, gd, T_q0 h1, (T_cnt h1 r).2.1]
  by_cases g : isB (g0 σ) bar ∧ wi n 1 20
  · rw [if_pos g, if_pos g.1, if_pos g.2]
    obtain ⟨j, h0, hj, rfl⟩ := wi_ix1 (n := 20) (by decide) rfl g.2
    rw [nI_clamp (by omega), nI_add]
    by_cases hl : (sr (g0 σ) 2).length + j ≤ 96
    · rw [if_pos hl, if_pos (show nI ((sr (g0 σ) 2).length + j) ≤ (96 : Int32) from nI_le (b := 96) hl (by decide)), ← nI_0]
      have q := T_madeL (N := N) (bar := bar) (n := j) (by omega) N 0 M σ h hI g.1 (by omega) (by omega) (by omega)
      rw [Nat.sub_zero] at q
      exact q
    · rw [if_neg hl, if_neg (show ¬ nI ((sr (g0 σ) 2).length + j) ≤ (96 : Int32) from nI_ge (a := 96) (by omega) (by omega))]
      exact DoT.er h hI.2.2.1 4 rfl (by decide)
  · rw [if_neg g]
    (repeat' split) <;> first | exact J | exact absurd ⟨by assumption, by assumption⟩ g
