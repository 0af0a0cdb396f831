/-! image, restore: the class, end -/
theorem N_k {N : Nat} {M : Mm} {b c : Nat} {S T : St} (hN : 2000 ≤ N) (hbc : tw2 b c) (h : NowAt M b S) (g : NowAt M c T) : ∃ M1 M3, LX6_become_106 N N M b c 0 = jX6_become_142 N M1 b c ∧ gI M1 6 c 8 = some (nI (sk T).length) ∧ pF M1 6 b 8 (.int (nI (sk T).length)) = some M3 ∧ NowAt M3 b (S.1, S.2.1, sk T, S.2.2.2) ∧ NowAt M3 c T ∧ Of (fun x => b ≤ x ∧ x < b + 29) M M3 := by
  obtain ⟨fs, s1, ⟨s2, s2'⟩, s3⟩ := h.2.2.2
  obtain ⟨ft, t1, ⟨t2, t2'⟩, t3⟩ := g.2.2.2
  have m5 : ∀ u, u < 12 → ft u = none ∨ ∃ q l, ft u = some q ∧ CntAt M q l := fun u hu => by
    by_cases z : u < (sk T).length
    · obtain ⟨q, z1, z2⟩ := t3 u z
      exact Or.inr ⟨q, _, z1, z2⟩
    · exact Or.inl (t2' u (by omega))
  obtain ⟨M1, gf, r1, r2, r3, r4⟩ := N_cnt (N := N) (b := b) (c := c) hbc (vs := soF b (sk S).length (sz S)) (vt := soF c (sk T).length (sz T)) rfl rfl N 0 M fs h.1 g.1 s1 t1 m5 (by omega) (by omega)
  have e1 : M1[b]? = some (.inr (6, soF b (sk S).length (sz S))) := by rw [r4.2 _ (by omega)]; exact h.1
  have e2 : M1[c]? = some (.inr (6, soF c (sk T).length (sz T))) := by rw [r4.2 _ (by unfold tw2 at hbc; omega)]; exact g.1
  have l1 := lt_of_at e1
  obtain ⟨M3, hM3⟩ : ∃ M3, M3 = M1.set b (.inr (6, (soF b (sk S).length (sz S)).set 8 (.int (nI (sk T).length)))) := ⟨_, rfl⟩
  have o3 : Of (fun x => x = b) M1 M3 := by rw [hM3]; exact Of.set rfl
  have o : Of (fun x => x = b ∨ x = b + 14) M M3 := (r4.mono (fun x q => Or.inr q)).trans (o3.mono (fun x q => Or.inl q))
  have d : Dy M M3 := o.dy (fun x q => by unfold tw2 at hbc; omega)
  refine ⟨M1, M3, r1, gI_ok e2 rfl, by rw [hM3]; exact pF_ok e1 (Nat.le_of_ble_eq_true rfl), ?_, g.mv (o.sm (fun x _ _ => by unfold tw2 at hbc; omega)) d, o.mono (fun x q => by omega)⟩
  obtain ⟨-, h2, ⟨f, h3, h4⟩, -⟩ := h
  refine ⟨by rw [hM3]; simp [l1]; rfl, fun i hi => (h2 i hi).of o ?_ ?_, ⟨f, by rw [o.2 _ (by omega)]; exact h3, fun u hu => (h4 u hu).mv d⟩, gf, by rw [o3.2 _ (by omega)]; exact r2, ⟨t2, fun u hu => ?_⟩, fun u hu => ?_⟩
  · have := ro_lt i hi; omega
  · have := ro_lt i hi; omega
  · have hu' : (sk T).length ≤ u := hu
    rw [r3 u]
    by_cases z : 0 ≤ u ∧ u < 12
    · rw [if_pos z]; exact t2' u hu'
    · rw [if_neg z]; exact s2' u (by omega)
  · have hu' : u < (sk T).length := hu
    obtain ⟨q, z1, z2⟩ := t3 u hu'
    exact ⟨q, by rw [r3 u, if_pos (by omega)]; exact z1, d.2 _ _ z2⟩
theorem N_z {M : Mm} {b c : Nat} {S T : St} (hbc : tw2 b c) (h : NowAt M b S) (g : NowAt M c T) (a : Int32) : ∃ M', pF M 6 b 16 (.int a) = some M' ∧ NowAt M' b (S.1, S.2.1, S.2.2.1, a) ∧ NowAt M' c T ∧ Of (fun x => b ≤ x ∧ x < b + 29) M M' := by
  obtain ⟨M3, hM3⟩ : ∃ M3, M3 = M.set b (.inr (6, (soF b (sk S).length (sz S)).set 16 (.int a))) := ⟨_, rfl⟩
  have o : Of (fun k => k = b) M M3 := by rw [hM3]; exact Of.set rfl
  have d : Dy M M3 := o.dy (fun k q => by unfold tw2 at hbc; omega)
  refine ⟨M3, by rw [hM3]; exact pF_ok h.1 (Nat.le_of_ble_eq_true rfl), ?_, g.mv (o.sm (fun x _ _ => by unfold tw2 at hbc; omega)) d, o.mono (fun x q => by omega)⟩
  obtain ⟨h1, h2, ⟨f, h3, h4⟩, f2, h5, h6, h7⟩ := h
  have := lt_of_at h1
  refine ⟨by rw [hM3]; simp [this]; rfl, fun i hi => (h2 i hi).of o ?_ ?_, ⟨f, by rw [o.2 _ (by omega)]; exact h3, fun u hu => (h4 u hu).mv d⟩, f2, by rw [o.2 _ (by omega)]; exact h5, h6, fun c hc => ?_⟩
  · have := ro_lt i hi; omega
  · have := ro_lt i hi; omega
  · obtain ⟨q, k1, k2⟩ := h7 c hc
    exact ⟨q, k1, d.2 _ _ k2⟩
theorem N_become {N : Nat} {M : Mm} {b c : Nat} {S T : St} (hN : 2000 ≤ N) (hbc : tw2 b c) (h : NowAt M b S) (g : NowAt M c T) (hL : ∀ i, i < 13 → (sr T i).length ≤ rc i) : ∃ M', fX6_become N M b c = some M' ∧ NowAt M' b T ∧ NowAt M' c T ∧ Of (fun x => b ≤ x ∧ x < b + 29) M M' := by
  obtain ⟨M1, a1, h1, g1, o1⟩ := N_step hbc h g 0 (by decide) 0 rfl (hL 0 (by decide))
  obtain ⟨M2, a2, h2, g2, o2⟩ := N_step hbc h1 g1 1 (by decide) 1 rfl (hL 1 (by decide))
  obtain ⟨M3, a3, h3, g3, o3⟩ := N_step hbc h2 g2 2 (by decide) 2 rfl (hL 2 (by decide))
  obtain ⟨M4, a4, h4, g4, o4⟩ := N_step hbc h3 g3 3 (by decide) 3 rfl (hL 3 (by decide))
  obtain ⟨M5, a5, h5, g5, o5⟩ := N_step hbc h4 g4 4 (by decide) 4 rfl (hL 4 (by decide))
  obtain ⟨M6, a6, h6, g6, o6⟩ := N_step hbc h5 g5 5 (by decide) 5 rfl (hL 5 (by decide))
  obtain ⟨M7, a7, h7, g7, o7⟩ := N_txt (N := N) hbc N 0 M6 _ h6 g6 (by omega) (by omega)
  obtain ⟨M8, M9, a8, a8', a8'', h9, g9, o9⟩ := N_k (N := N) hN hbc h7 g7
  obtain ⟨M10, a10, h10, g10, o10⟩ := N_step hbc h9 g9 6 (by decide) 9 rfl (hL 6 (by decide))
  obtain ⟨M11, a11, h11, g11, o11⟩ := N_step hbc h10 g10 7 (by decide) 10 rfl (hL 7 (by decide))
  obtain ⟨M12, a12, h12, g12, o12⟩ := N_step hbc h11 g11 8 (by decide) 11 rfl (hL 8 (by decide))
  obtain ⟨M13, a13, h13, g13, o13⟩ := N_step hbc h12 g12 9 (by decide) 12 rfl (hL 9 (by decide))
  obtain ⟨M14, a14, h14, g14, o14⟩ := N_step hbc h13 g13 10 (by decide) 13 rfl (hL 10 (by decide))
  obtain ⟨M15, a15, h15, g15, o15⟩ := N_step hbc h14 g14 11 (by decide) 14 rfl (hL 11 (by decide))
  obtain ⟨M16, a16, h16, g16, o16⟩ := N_step hbc h15 g15 12 (by decide) 15 rfl (hL 12 (by decide))
  obtain ⟨M17, a17, h17, g17, o17⟩ := N_z hbc h16 g16 (sz T)
  have e7 : LX6_become_68 N N M6 b c 0 = LX6_become_106 N N M7 b c 0 := a7
  refine ⟨M17, ?_, h17.cg (fun i hi => ?_) (fun u hu => ?_) rfl rfl, g17, (((((((((((((((o1.trans o2).trans o3).trans o4).trans o5).trans o6).trans o7).trans o9).trans o10).trans o11).trans o12).trans o13).trans o14).trans o15).trans o16).trans o17)⟩
  · unfold fX6_become
    rw [h.c]
    show ((gQ M 6 b 0).bind fun q => (gQ M 6 c 0).bind fun q' => (fX3_become M q q').bind _) = _
    rw [a1, a2, a3, a4, a5, a6, e7, a8]
    unfold jX6_become_142
    rw [a8']
    simp only [Option.bind_some]
    rw [a8'']
    simp only [Option.bind_some]
    rw [a10, a11, a12, a13, a14, a15, a16, g16.z]
    simp only [Option.bind_some]
    rw [a17]
    rfl
  · match i, hi with
    | 0, _ => rfl
    | 1, _ => rfl
    | 2, _ => rfl
    | 3, _ => rfl
    | 4, _ => rfl
    | 5, _ => rfl
    | 6, _ => rfl
    | 7, _ => rfl
    | 8, _ => rfl
    | 9, _ => rfl
    | 10, _ => rfl
    | 11, _ => rfl
    | 12, _ => rfl
  · rfl
theorem C_image {N : Nat} {M : Mm} {σ : Sg} (h : RelC M σ) (hI : Ig σ) (hN : 2000 ≤ N) : DoC M (fX10_image N M 0) (sp_image σ) := by
  obtain ⟨h0, h1, h2, ⟨h3, h4⟩, h5, ⟨h6, h7⟩, h8, h9⟩ := id h
  obtain ⟨M1, e1, e2, e3, o1⟩ := N_become (N := N) hN (show tw2 30 1 from Or.inr ⟨rfl, rfl⟩) h2 h1 hI.1.L
  have c1 : M1[0]? = some (.inr (10, [.ref 1, .ref 30, .int (gi σ), .ref 59, .ref 61, .ref 74, .ref 109, .ref 124, .ref 129, .ref 132])) := by rw [o1.2 0 (by omega)]; exact h0
  have l1 := lt_of_at c1
  obtain ⟨M2, hM2⟩ : ∃ M2, M2 = M1.set 0 (.inr (10, [.ref 1, .ref 30, .int (gi σ + 1), .ref 59, .ref 61, .ref 74, .ref 109, .ref 124, .ref 129, .ref 132])) := ⟨_, rfl⟩
  have ep : pF M1 10 0 2 (.int (gi σ + 1)) = some M2 := by rw [hM2]; exact pF_ok c1 (Nat.le_of_ble_eq_true rfl)
  have c2 : M2[0]? = some (.inr (10, [.ref 1, .ref 30, .int (gi σ + 1), .ref 59, .ref 61, .ref 74, .ref 109, .ref 124, .ref 129, .ref 132])) := by rw [hM2]; simp [l1]
  have o2 : Of (fun x => x = 0) M1 M2 := by rw [hM2]; exact Of.set rfl
  have o : Of (fun x => x = 0 ∨ (30 ≤ x ∧ x < 59)) M M2 := (o1.mono (fun x q => by omega)).trans (o2.mono (fun x q => by omega))
  have d2 : Dy M1 M2 := o2.dy (fun x q => by omega)
  refine ⟨M2, ?_, ⟨c2, e3.mv (o2.sm (fun k a b => by omega)) d2, e2.mv (o2.sm (fun k a b => by omega)) d2, ⟨h3, h4.mv (o.sm (fun k a b => by omega))⟩, h5.mv (o.sm (fun k a b => by omega)), ⟨by rw [o.2 129 (by omega)]; exact h6, h7.mv (o.sm (fun k a b => by omega))⟩, h8.mv (o.sm (fun k a b => by omega)) (o.sm (fun k a b => by omega)), by rw [o.1]; exact h9⟩, o.frC (fun x q => by omega)⟩
  simp only [fX10_image, h.c, h.q0, h.q1, e1, gI_ok c1 (k := 2) rfl, ep, gI_ok c2 (k := 2) rfl, Option.bind_some]
  rfl
theorem C_restore {N : Nat} {M : Mm} {σ : Sg} (h : RelC M σ) (hI : Ig σ) (hN : 2000 ≤ N) : DoC M (fX10_restore N M 0) (sp_restore σ) := by
  have J := DoC.er h (a := 2) 2 rfl (by decide)
  unfold fX10_restore sp_restore
  simp only [h.c, h.i2, Option.bind_some]
  by_cases g : gi σ = 0
  · rw [if_pos g, if_pos g]; exact J
  · rw [if_neg g, if_neg g]
    obtain ⟨M1, e1, e2, e3, o1⟩ := N_become (N := N) hN (show tw2 1 30 from Or.inl ⟨rfl, rfl⟩) h.2.1 h.2.2.1 hI.2.1.L
    have r := h.now (o1.mono (fun x q => by omega)) e2
    refine ⟨M1, ?_, r, o1.frC (fun x q => by omega)⟩
    have er : fX6_rings M1 1 = some (nI (sr (g1 σ) 2).length) := by
      have q2 : gQ M1 6 1 2 = some (1 + ro 2) := e2.q 2 (by decide)
      simp only [fX6_rings, e2.c, q2, R_size (e2.2.1 2 (by decide)), Option.bind_some]
    simp only [h.q0, h.q1, e1, r.q0, er, Option.bind_some]
