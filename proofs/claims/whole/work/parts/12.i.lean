/-! text (rows) -/
def clr5 (σ : Sg) : Sg := (srow (g0 σ) 5 [], σ.2)
def txS (σ : Sg) (u : Nat) (code : List Int32) : Sg := (((g0 σ).1, (fun v => if v = u then some code else sx (g0 σ) v), (g0 σ).2.2), σ.2)
def gdT (xs : List Int32) (u : Nat) : Prop := (rdT xs u).1 = true ∧ (rdT xs u).2.1 = xs.length
def sp_text (σ : Sg) (a : Int32) : An := if wi a 0 8 then (if (rdT (sr (g0 σ) 5) a.toNatClampNeg).1 = true ∧ (rdT (sr (g0 σ) 5) a.toNatClampNeg).2.1 = (sr (g0 σ) 5).length then (1, txS (clr5 σ) a.toNatClampNeg (rdT (sr (g0 σ) 5) a.toNatClampNeg).2.2) else (-10 - nI (rdT (sr (g0 σ) 5) a.toNatClampNeg).2.1, clr5 σ)) else er σ 1
theorem RelC.rd {M M' : Mm} {σ : Sg} {xs cs : List Int32} {u p : Nat} (h : RelC M σ) (o : Of (fun k => 132 ≤ k ∧ k < 137) M M') (g : RdC M' xs u p cs) : RelC M' σ := by
  obtain ⟨⟨h1, h2, h3, h4, h5⟩, h6, ⟨⟨u', v, h7⟩, h8, h9⟩, -, h11, h12⟩ := h.2.2.2.2.2.2.1
  exact h.scr (o.sm (fun k a b => by omega)) (o.sm (fun k a b => by omega)) (o.dy (fun k q => by omega)) ⟨⟨by rw [o.2 74 (by omega)]; exact h1, h2.mv (o.sm (fun k a b => by omega)), h3.mv (o.sm (fun k a b => by omega)), h4.mv (o.sm (fun k a b => by omega)), h5.mv (o.sm (fun k a b => by omega))⟩, h6.mv (o.sm (fun k a b => by omega)), ⟨⟨u', v, by rw [o.2 124 (by omega)]; exact h7⟩, h8.mv (o.sm (fun k a b => by omega)), h9.mv (o.sm (fun k a b => by omega))⟩, ⟨_, _, g.1⟩, ⟨_, g.2.1⟩, ⟨_, g.2.2⟩⟩ (by rw [o.1]; exact h.2.2.2.2.2.2.2)
theorem rdT_ok {xs : List Int32} {u : Nat} : Gd xs u 0 [] (rdT xs u) := lvl_ok (opd_ok 5) 5 (Nat.le_refl _) 0 [] (Nat.zero_le _)
theorem C_read {N : Nat} {M : Mm} {σ : Sg} (h : RelC M σ) (hI : Ig σ) (hN : 2000 ≤ N) (u : Nat) : ∃ M' x, fX2_read N M 132 12 (nmI u) = some (x, M') ∧ RelC M' σ ∧ Rw M' 133 50 (rdT (sr (g0 σ) 5) u).2.2 ∧ Of (fun k => 132 ≤ k ∧ k < 137) M M' ∧ x = if (rdT (sr (g0 σ) 5) u).1 = true ∧ (rdT (sr (g0 σ) 5) u).2.1 = (sr (g0 σ) 5).length then -1 else nI (rdT (sr (g0 σ) 5) u).2.1 := by
  have h50 : (sr (g0 σ) 5).length ≤ 50 := hI.1.L 5 (by decide)
  have hx : ∀ x ∈ sr (g0 σ) 5, wi x 0 255 := hI.1.1 5 (by decide)
  obtain ⟨⟨j, pl, s1⟩, ⟨y1, s2⟩, ⟨y2, s3⟩⟩ : (∃ j pl, M[132]? = some (.inr (2, [.ref 133, .ref 135, .float j, .int pl]))) ∧ Rx M 133 50 ∧ Rx M 135 50 := h.2.2.2.2.2.2.1.2.2.2
  obtain ⟨M1, a1, a2, a3⟩ := R_clear s2
  have g1 : M1[132]? = some (.inr (2, [.ref 133, .ref 135, .float j, .int pl])) := by rw [a3.2 _ (by omega)]; exact s1
  obtain ⟨M2, b1, b2, b3⟩ := R_become (s3.of a3 (by omega) (by omega)) (h.w5.of a3 (by omega) (by omega)) (by decide) h50
  have g2 : M2[132]? = some (.inr (2, [.ref 133, .ref 135, .float j, .int pl])) := by rw [b3.2 _ (by omega)]; exact g1
  have o3 : Of (fun k => k = 132) M2 (M2.set 132 (.inr (2, [.ref 133, .ref 135, .float (UInt32.ofNat (nmI u)), .int pl]))) := Of.set rfl
  have p3 : pF M2 2 132 2 (.float (UInt32.ofNat (nmI u))) = some (M2.set 132 (.inr (2, [.ref 133, .ref 135, .float (UInt32.ofNat (nmI u)), .int pl]))) := by
    rw [pF_ok g2 (k := 2) (Nat.le_of_ble_eq_true rfl)]; rfl
  generalize hM3 : M2.set 132 (.inr (2, [.ref 133, .ref 135, .float (UInt32.ofNat (nmI u)), .int pl])) = M3 at o3 p3
  have g3 : M3[132]? = some (.inr (2, [.ref 133, .ref 135, .float (UInt32.ofNat (nmI u)), .int pl])) := by
    rw [← hM3]
    have := lt_of_at g2
    simp [this]
  have o4 : Of (fun k => k = 132) M3 (M3.set 132 (.inr (2, [.ref 133, .ref 135, .float (UInt32.ofNat (nmI u)), .int 0]))) := Of.set rfl
  have p4 : pF M3 2 132 3 (.int 0) = some (M3.set 132 (.inr (2, [.ref 133, .ref 135, .float (UInt32.ofNat (nmI u)), .int 0]))) := by
    rw [pF_ok g3 (k := 3) (Nat.le_of_ble_eq_true rfl)]; rfl
  generalize hM4 : M3.set 132 (.inr (2, [.ref 133, .ref 135, .float (UInt32.ofNat (nmI u)), .int 0])) = M4 at o4 p4
  have g4 : M4[132]? = some (.inr (2, [.ref 133, .ref 135, .float (UInt32.ofNat (nmI u)), .int (nI 0)])) := by
    rw [← hM4]
    have := lt_of_at g3
    simp [this]
    rfl
  have c4 : RdC M4 (sr (g0 σ) 5) u 0 [] := ⟨g4, ((a2.of b3 (by omega) (by omega)).of o3 (by omega) (by omega)).of o4 (by omega) (by omega), (b2.of o3 (by omega) (by omega)).of o4 (by omega) (by omega)⟩
  obtain ⟨M5, d1, d2, d3⟩ := C_rdT (N := N) hN hx h50 c4
  have o : Of (fun k => 132 ≤ k ∧ k < 137) M M5 := ((((a3.mono (fun k q => by omega)).trans (b3.mono (fun k q => by omega))).trans (o3.mono (fun k q => by omega))).trans (o4.mono (fun k q => by omega))).trans d3
  have kn : sK (nmI u) = some (nmI u) := if_pos (by rcases nmI_in u with e | e <;> rw [e] <;> decide)
  have e1 : gQ M 2 132 0 = some 133 := gQ_ok s1 rfl
  have e2 : gQ M1 2 132 1 = some 135 := gQ_ok g1 rfl
  refine ⟨M5, if (rdT (sr (g0 σ) 5) u).1 = true ∧ (rdT (sr (g0 σ) 5) u).2.1 = (sr (g0 σ) 5).length then -1 else nI (rdT (sr (g0 σ) 5) u).2.1, ?_, h.rd o d2, d2.2.1, o, rfl⟩
  have G := rdT_ok (xs := sr (g0 σ) 5) (u := u)
  simp only [fX2_read, gC_ok s1, e1, a1, e2, b1, kn, p3, p4, Option.bind_some]
  rw [d1, bd2_s]
  generalize rdT (sr (g0 σ) 5) u = r at d2 G ⊢
  obtain ⟨f0, f1, f2, f3, f4⟩ := d2.f
  have gl := G.1
  simp only [f3, f2, R_size d2.2.2, Option.bind_some, jX2_read_52, jX2_read_53]
  by_cases y : r.1 = true
  · rw [if_pos y, if_neg (show ¬ (1 : Int32) = 0 by decide)]
    by_cases z : r.2.1 = (sr (g0 σ) 5).length
    · rw [if_pos (show nI r.2.1 = nI (sr (g0 σ) 5).length by rw [z]), if_pos (show r.1 = true ∧ r.2.1 = (sr (g0 σ) 5).length from ⟨y, z⟩), if_neg (show ¬ (1 : Int32) = 0 by decide)]
    · rw [if_neg (show ¬ nI r.2.1 = nI (sr (g0 σ) 5).length from fun w => z ((nI_eq (by omega) (by omega)).mp w)), if_neg (show ¬ (r.1 = true ∧ r.2.1 = (sr (g0 σ) 5).length) from fun w => z w.2), if_pos trivial]
  · rw [if_neg y, if_pos (show (0 : Int32) = 0 from rfl), if_neg (show ¬ (r.1 = true ∧ r.2.1 = (sr (g0 σ) 5).length) from fun w => y w.1), if_pos trivial]
/-- cells that stood before stay -/
def Ex (L : Nat) (M M' : Mm) : Prop := ∀ k, k < L → M'[k]? = M[k]?
theorem Ex.trans {L : Nat} {M M1 M2 : Mm} (h : Ex L M M1) (g : Ex L M1 M2) : Ex L M M2 := fun k hk => (g k hk).trans (h k hk)
theorem Of.ex {P : Nat → Prop} {M M' : Mm} {L : Nat} (o : Of P M M') (g : ∀ k, P k → L ≤ k) : Ex L M M' := fun k hk => o.2 k (fun q => by have := g k q; omega)
theorem ex_app {M : Mm} {x : va_E} {L : Nat} (h : L ≤ M.length) : Ex L M (M ++ [x]) := fun k hk => List.getElem?_append_left (by omega)
theorem Rw.ex {L : Nat} {M M' : Mm} {a cap : Nat} {xs : List Int32} (h : Rw M a cap xs) (e : Ex L M M') (ha : a + 1 < L) : Rw M' a cap xs := h.mv (fun k p q => e k (by omega))
theorem N_row (M : Mm) {n : Nat} (hn : n ≤ 1000) : ∃ M', fX3_init (nO M 3 [.null, .int 0]) M.length (nI n) = some M' ∧ M'.length = M.length + 2 ∧ Ex M.length M M' ∧ Rw M' M.length n [] := by
  have e1 : nA (M ++ [.inr (3, [.null, .int 0])]) 0 (nI n) = some (M ++ [.inr (3, [.null, .int 0])] ++ [.inl (0, n, .inl (fun _ => 0))]) := by
    unfold nA
    rw [nI_clamp (by omega), if_pos ⟨nI_pos (by omega), hn⟩]
  have e2 : (M ++ [.inr (3, [.null, .int 0])] ++ [.inl (0, n, .inl (fun _ => 0))] : Mm)[M.length]? = some (.inr (3, [.null, .int 0])) := by simp
  have o : Of (fun k => k = M.length) (M ++ [.inr (3, [.null, .int 0])] ++ [.inl (0, n, .inl (fun _ => 0))] : Mm) ((M ++ [.inr (3, [.null, .int 0])] ++ [.inl (0, n, .inl (fun _ => 0))] : Mm).set M.length (.inr (3, [.ref (M.length + 1), .int 0]))) := Of.set rfl
  refine ⟨(M ++ [.inr (3, [.null, .int 0])] ++ [.inl (0, n, .inl (fun _ => 0))] : Mm).set M.length (.inr (3, [.ref (M.length + 1), .int 0])), ?_, ?_, ?_, ?_⟩
  · unfold fX3_init nO
    rw [C_max, Option.bind_some, show mx 0 (nI n) = nI n from by
      unfold mx
      by_cases z : (0 : Int32) < nI n
      · rw [if_pos z]
      · rw [if_neg z]
        have : n = 0 := by
          rcases Nat.eq_zero_or_pos n with w | w
          · exact w
          · exact absurd (show (0 : Int32) < nI n from nI_lt (a := 0) w (by omega)) z
        subst this; rfl, e1, Option.bind_some, pF_ok e2 (k := 0) (Nat.le_of_ble_eq_true rfl)]
    simp
  · simp
  · exact ((ex_app (Nat.le_refl _)).trans (ex_app (by simp))).trans (o.ex (fun k q => by omega))
  · refine ⟨Nat.zero_le _, hn, ?_, fun _ => 0, ?_, fun i hi => by simp at hi⟩
    · simp; rfl
    · rw [o.2 _ (by omega)]; simp
theorem C_newText {M : Mm} {code : List Int32} (h : Rw M 133 50 code) (hl : 153 ≤ M.length) (hc : code.length ≤ 50) : ∃ M', fX8_init (nO M 8 [.null, .null]) M.length 133 = some M' ∧ M.length ≤ M'.length ∧ Ex M.length M M' ∧ TextAt M' M.length code := by
  obtain ⟨M0, hM0⟩ : ∃ M0, M0 = nO M 8 [.null, .null] := ⟨_, rfl⟩
  have l0 : M0.length = M.length + 1 := by rw [hM0]; simp [nO]
  have x0 : Ex M.length M M0 := by rw [hM0]; exact ex_app (Nat.le_refl _)
  have t0 : M0[M.length]? = some (.inr (8, [.null, .null])) := by rw [hM0]; simp [nO]
  obtain ⟨M2, a1, a2, a3, a4⟩ := N_row M0 (n := code.length) (by omega)
  have h0 : Rw (nO M0 3 [.null, .int 0]) 133 50 code := (h.ex x0 (by omega)).ex (L := M0.length) (ex_app (Nat.le_refl _)) (by omega)
  have t2 : M2[M.length]? = some (.inr (8, [.null, .null])) := by rw [a3 _ (by omega)]; exact t0
  obtain ⟨M3, hM3⟩ : ∃ M3, M3 = M2.set M.length (.inr (8, [.ref M0.length, .null])) := ⟨_, rfl⟩
  have o3 : Of (fun k => k = M.length) M2 M3 := by rw [hM3]; exact Of.set rfl
  have p3 : pF M2 8 M.length 0 (.ref M0.length) = some M3 := by rw [pF_ok t2 (k := 0) (Nat.le_of_ble_eq_true rfl), hM3]; rfl
  have t3 : M3[M.length]? = some (.inr (8, [.ref M0.length, .null])) := by
    rw [hM3]
    have := lt_of_at t2
    simp [this]
  have r3 : Rw M3 M0.length code.length [] := a4.of o3 (by omega) (by omega)
  have h3 : Rw M3 133 50 code := ((h.ex x0 (by omega)).ex a3 (by omega)).of o3 (by omega) (by omega)
  obtain ⟨M4, b1, b2, b3⟩ := R_become r3 h3 (by omega) (Nat.le_refl _)
  have t4 : M4[M.length]? = some (.inr (8, [.ref M0.length, .null])) := by rw [b3.2 _ (by omega)]; exact t3
  have h4 : Rw M4 133 50 code := h3.of b3 (by omega) (by omega)
  have l4 : M4.length = M.length + 3 := by rw [b3.1, o3.1, a2, l0]
  obtain ⟨M6, c1, c2, c3, c4⟩ := N_row M4 (n := code.length) (by omega)
  have h5 : Rw (nO M4 3 [.null, .int 0]) 133 50 code := h4.ex (L := M4.length) (ex_app (Nat.le_refl _)) (by omega)
  have t6 : M6[M.length]? = some (.inr (8, [.ref M0.length, .null])) := by rw [c3 _ (by omega)]; exact t4
  obtain ⟨M7, hM7⟩ : ∃ M7, M7 = M6.set M.length (.inr (8, [.ref M0.length, .ref M4.length])) := ⟨_, rfl⟩
  have o7 : Of (fun k => k = M.length) M6 M7 := by rw [hM7]; exact Of.set rfl
  have p7 : pF M6 8 M.length 1 (.ref M4.length) = some M7 := by rw [pF_ok t6 (k := 1) (Nat.le_of_ble_eq_true rfl), hM7]; rfl
  have t7 : M7[M.length]? = some (.inr (8, [.ref (M.length + 1), .ref (M.length + 3)])) := by
    rw [hM7]
    have := lt_of_at t6
    simp [this, l0, l4]
  have q3 : gQ M3 8 M.length 0 = some M0.length := gQ_ok t3 rfl
  refine ⟨M7, ?_, by rw [o7.1, c2]; omega, ((((x0.trans (fun k hk => a3 k (by omega))).trans (o3.ex (fun k q => by omega))).trans (b3.ex (fun k q => by omega))).trans (fun k hk => c3 k (by omega))).trans (o7.ex (fun k q => by omega)), hl, t7, ?_, [], ?_⟩
  · rw [← hM0]
    unfold fX8_init
    rw [Option.bind_some, R_size h0, Option.bind_some, a1, Option.bind_some, p3, Option.bind_some, q3, Option.bind_some, b1, Option.bind_some, Option.bind_some, R_size h5, Option.bind_some, c1, Option.bind_some, p7]
    rfl
  · rw [← l0]
    exact (b2.ex (L := M4.length) c3 (by omega)).of o7 (by omega) (by omega)
  · rw [← l4]
    exact c4.of o7 (by omega) (by omega)
theorem RelC.ext {M M' : Mm} {σ : Sg} (h : RelC M σ) (e : Ex M.length M M') (hl : M.length ≤ M'.length) : RelC M' σ ∧ FrC M M' ∧ Dy M M' := by
  have h153 : 153 ≤ M.length := h.2.2.2.2.2.2.2
  have s : ∀ lo hi, hi ≤ 153 → Sm lo hi M M' := fun lo hi q k _ hk => e k (by omega)
  have d : Dy M M' := Dy.of fun k y _ hy => by rw [e k (lt_of_at hy)]; exact hy
  exact ⟨h.scr (s _ _ (by omega)) (s _ _ (by omega)) d (h.2.2.2.2.2.2.1.mv (s _ _ (by omega)) (s _ _ (by omega))) (by omega), ⟨hl, s _ _ (by omega)⟩, d⟩
theorem C_setText {M : Mm} {σ : Sg} (h : RelC M σ) {q u : Nat} {code : List Int32} (hq : TextAt M q code) (hu : u < 9) : ∃ M', fX6_setText M 1 (nI u) q = some M' ∧ RelC M' (txS σ u code) ∧ FrC M M' := by
  have n1 := h.2.1
  obtain ⟨f, s1, s2⟩ := n1.2.2.1
  have q6 : gQ M 6 1 6 = some 14 := gQ_ok n1.1 rfl
  have ho : isO M 8 (some q) = true := by simp [isO, hq.2.1]
  have l1 := lt_of_at s1
  obtain ⟨M1, hM1⟩ : ∃ M1, M1 = M.set 14 (.inl (2, 9, .inr (.inr (.inr (.inr (va_up f u (some q))))))) := ⟨_, rfl⟩
  have o1 : Of (fun x => x = 14) M M1 := by rw [hM1]; exact Of.set rfl
  have e1 : sR M 2 8 14 (nI u) (some q) = some M1 := by rw [hM1]; exact sR_ok s1 hu (by decide) ho
  have d : Dy M M1 := o1.dy (fun x q => by omega)
  have nw : NowAt M1 1 ((g0 σ).1, (fun v => if v = u then some code else sx (g0 σ) v), (g0 σ).2.2) := by
    obtain ⟨h1, h2, -, f3, h3, h4, h5⟩ := n1
    refine ⟨by rw [o1.2 _ (by omega)]; exact h1, fun i hi => (h2 i hi).of o1 ?_ ?_, ⟨va_up f u (some q), ?_, fun v hv => ?_⟩, f3, by rw [o1.2 _ (by omega)]; exact h3, h4, fun c hc => ?_⟩
    · have := ro_lt i hi; omega
    · have := ro_lt i hi; omega
    · rw [hM1]; simp [l1]
    · show TxO M1 (va_up f u (some q) v) (if v = u then some code else sx (g0 σ) v)
      by_cases z : v = u
      · subst z
        rw [if_pos rfl, va_up_self]
        exact ⟨q, rfl, d.1 _ _ hq⟩
      · rw [if_neg z, va_up_ne _ _ z]
        exact (s2 v hv).mv d
    · obtain ⟨q2, w1, w2⟩ := h5 c hc
      exact ⟨q2, w1, d.2 _ _ w2⟩
  refine ⟨M1, ?_, h.now (o1.mono (fun x q => by omega)) nw, o1.frC (fun x q => by omega)⟩
  simp only [fX6_setText, n1.c, q6, aL_ok s1 (by decide), Option.bind_some, if_neg (nI_pos (show u < 2 ^ 31 by omega)), if_neg (nI_ge hu (by decide)), e1]
theorem C_text {N : Nat} {M : Mm} {σ : Sg} (h : RelC M σ) (hI : Ig σ) (hN : 2000 ≤ N) (a : Int32) : DoC M (fX10_text N M 0 a) (sp_text σ a) := by
  have J := DoC.er h (a := 1) 1 rfl (by decide)
  have h50 : (sr (g0 σ) 5).length ≤ 50 := hI.1.L 5 (by decide)
  unfold fX10_text sp_text
  simp only [h.c, h.q0, h.q9, h.f5, C_within, Option.bind_some, gd]
  by_cases g : wi a 0 8
  · rw [if_pos g, if_pos g]
    obtain ⟨u, hu, rfl⟩ := wi_ix (n := 8) (by decide) rfl g
    rw [nI_clamp (by omega)]
    have K : DoC M (jX10_text_39 N M 0 (nI u) 132 12 (nmI u)) (if (rdT (sr (g0 σ) 5) u).1 = true ∧ (rdT (sr (g0 σ) 5) u).2.1 = (sr (g0 σ) 5).length then (1, txS (clr5 σ) u (rdT (sr (g0 σ) 5) u).2.2) else (-10 - nI (rdT (sr (g0 σ) 5) u).2.1, clr5 σ)) := by
      obtain ⟨M1, x, a1, a2, a3, a4, a5⟩ := C_read (N := N) h hI hN u
      obtain ⟨M2, b1, b2, b3⟩ := R_clear a2.w5
      have r2 : RelC M2 (clr5 σ) := a2.u5 b3 b2
      have fr : FrC M M2 := (a4.frC (fun k q => by omega)).trans (b3.frC (fun k q => by omega))
      have G := rdT_ok (xs := sr (g0 σ) 5) (u := u)
      have c2 : Rw M2 133 50 (rdT (sr (g0 σ) 5) u).2.2 := a3.of b3 (by omega) (by omega)
      unfold jX10_text_39
      rw [a1, bd2_s]
      simp only [a2.q0, a2.f5, b1, Option.bind_some]
      generalize rdT (sr (g0 σ) 5) u = r at a5 G c2 ⊢
      by_cases z : r.1 = true ∧ r.2.1 = (sr (g0 σ) 5).length
      · rw [if_pos z] at a5 ⊢
        obtain ⟨g4, es, g5, g6, g7⟩ := G.2.2 z.1
        have lc : r.2.2.length ≤ 50 := c2.1
        obtain ⟨M3, d1, d2, d3, d4⟩ := C_newText c2 r2.2.2.2.2.2.2.2 lc
        obtain ⟨e1, e2, e3⟩ := r2.ext d3 d2
        obtain ⟨M4, f1, f2, f3⟩ := C_setText e1 d4 (show u < 9 by omega)
        have gr := r2.grow (.inr (8, [.null, .null]))
        have q9 : gQ (nO M2 8 [.null, .null]) 10 0 9 = some 132 := gr.1.q9
        have q0 : gQ (nO M2 8 [.null, .null]) 2 132 0 = some 133 := by
          obtain ⟨j, pl, w⟩ := gr.1.2.2.2.2.2.2.1.2.2.2.1
          exact gQ_ok w rfl
        rw [a5, if_pos rfl, r2.q0, Option.bind_some, q9, Option.bind_some, q0, Option.bind_some, d1, Option.bind_some, f1]
        exact ⟨M4, rfl, f2, fr.trans (e2.trans f3)⟩
      · rw [if_neg z] at a5 ⊢
        have gl := G.1
        rw [a5, if_neg (fun w => nI_pos (show r.2.1 < 2 ^ 31 by omega) (by rw [w]; decide))]
        exact ⟨M2, rfl, r2, fr⟩
    by_cases y : u < 3
    · rw [if_neg (show ¬ (3 : Int32) ≤ nI u from nI_ge (b := 3) y (by decide))]
      rw [show nmI u = 1 from if_pos y] at K
      exact K
    · rw [if_pos (show (3 : Int32) ≤ nI u from nI_le (a := 3) (by omega) (by omega))]
      rw [show nmI u = 2 from if_neg y] at K
      exact K
  · rw [if_neg g, if_neg g]; exact J
theorem I_text {σ : Sg} (h : Ig σ) (a : Int32) : Ig (sp_text σ a).2 := by
  have h50 : (sr (g0 σ) 5).length ≤ 50 := h.1.L 5 (by decide)
  have hc : Ig (clr5 σ) := ⟨h.1.row (i := 5) (by omega) (by simp) (fun _ x hx => by simp at hx), h.2⟩
  unfold sp_text
  by_cases g : wi a 0 8
  · rw [if_pos g]
    have G := rdT_ok (xs := sr (g0 σ) 5) (u := a.toNatClampNeg)
    generalize rdT (sr (g0 σ) 5) a.toNatClampNeg = r at G ⊢
    by_cases z : r.1 = true ∧ r.2.1 = (sr (g0 σ) 5).length
    · rw [if_pos z]
      obtain ⟨g4, es, g5, g6, g7⟩ := G.2.2 z.1
      have gl := G.1
      refine ⟨?_, hc.2⟩
      obtain ⟨i1, i2, i3, i4, i5, i6, i7⟩ := hc.1
      refine ⟨i1, i2, i3, i4, i5, fun v code hv hs => ?_, i7⟩
      have hs' : (if v = a.toNatClampNeg then some r.2.2 else sx (g0 (clr5 σ)) v) = some code := hs
      by_cases w : v = a.toNatClampNeg
      · rw [if_pos w] at hs'
        cases hs'
        rw [g5, List.nil_append, w]
        exact ⟨by omega, g7.1 0, g7.2⟩
      · rw [if_neg w] at hs'
        exact i6 v code hv hs'
    · rw [if_neg z]; exact hc
  · rw [if_neg g]; exact h.er 1
