/-! the tape is laid (class), end -/
theorem C_lay {N t : Nat} {M : Mm} {S : St} {bar : Int32} (ht : 74 ≤ t) (ht2 : t < 140) (hN : 2000 ≤ N) (hl : (sr S 2).length ≤ 96) (n : NowAt M 1 S) (h : TapeAt M t) : ∃ M', fX7_lay N M t 1 bar = some M' ∧ Tp M' t (tpS S bar (sr S 2).length).1 (tpS S bar (sr S 2).length).2.1 (tpS S bar (sr S 2).length).2.2 ∧ Of (fun k => t + 1 ≤ k ∧ k < t + 7) M M' := by
  obtain ⟨h0, ⟨x1, h1⟩, ⟨x2, h2⟩, ⟨x3, h3⟩, -⟩ := h
  obtain ⟨M1, a1, b1, c1⟩ := R_clear h1
  have h2' : Rw M1 (t + 3) 96 x2 := h2.of c1 (by omega) (by omega)
  obtain ⟨M2, a2, b2, c2⟩ := R_clear h2'
  have h3' : Rw M2 (t + 5) 96 x3 := (h3.of c1 (by omega) (by omega)).of c2 (by omega) (by omega)
  obtain ⟨M3, a3, b3, c3⟩ := R_clear h3'
  have m0 : M[t]? = some (.inr (7, tpF t)) := h0
  have m1 : M1[t]? = some (.inr (7, tpF t)) := by rw [c1.2 _ (by omega)]; exact m0
  have m2 : M2[t]? = some (.inr (7, tpF t)) := by rw [c2.2 _ (by omega)]; exact m1
  have m3 : M3[t]? = some (.inr (7, tpF t)) := by rw [c3.2 _ (by omega)]; exact m2
  have o3 : Of (fun k => t + 1 ≤ k ∧ k < t + 7) M M3 := ((c1.mono (fun k q => by omega)).trans (c2.mono (fun k q => by omega))).trans (c3.mono (fun k q => by omega))
  have n3 : NowAt M3 1 S := n.mv (o3.sm (fun k q1 q2 => by omega)) (o3.dy (fun k q => by omega))
  have tp : Tp M3 t [] [] [] := ⟨m3, (b1.of c2 (by omega) (by omega)).of c3 (by omega) (by omega), b2.of c3 (by omega) (by omega), b3, rfl, rfl⟩
  have q := C_layS (N := N) (t := t) (S := S) (bar := bar) ht ht2 hN hl (sr S 2).length N M3 (Nat.le_refl _) (by omega) n3
  rw [Nat.sub_self] at q
  obtain ⟨M4, d1, d2, d3⟩ := q tp
  refine ⟨M4, ?_, d2, o3.trans d3⟩
  have q0 : gQ M 7 t 0 = some (t + 1) := gQ_ok m0 rfl
  have q1 : gQ M1 7 t 1 = some (t + 3) := gQ_ok m1 rfl
  have q2 : gQ M2 7 t 2 = some (t + 5) := gQ_ok m2 rfl
  simp only [fX7_lay, gC_ok m0, q0, a1, q1, a2, q2, a3, Option.bind_some]
  exact d1
theorem TapeAt.tp {M M' : Mm} {t : Nat} {rs ts hs : List Int32} (h : TapeAt M t) (g : Tp M' t rs ts hs) (o : Of (fun k => t + 1 ≤ k ∧ k < t + 7) M M') : TapeAt M' t := by
  obtain ⟨-, -, -, -, h4, h5, h6, h7⟩ := h
  exact ⟨g.1, ⟨_, g.2.1⟩, ⟨_, g.2.2.1⟩, ⟨_, g.2.2.2.1⟩, h4.mv (o.sm (fun k a b => by omega)), h5.mv (o.sm (fun k a b => by omega)), h6.mv (o.sm (fun k a b => by omega)), h7.mv (o.sm (fun k a b => by omega))⟩
theorem RelC.tape {M M' : Mm} {σ : Sg} (h : RelC M σ) (o : Of (fun k => 109 ≤ k ∧ k < 124) M M') (g : TapeAt M' 109) : RelC M' σ := by
  obtain ⟨⟨h1, h2, h3, h4, h5⟩, h6, ⟨⟨u, v, h7⟩, h8, h9⟩, ⟨j, pl, h10⟩, h11, h12⟩ := h.2.2.2.2.2.2.1
  refine h.scr (o.sm (fun k a b => by omega)) (o.sm (fun k a b => by omega)) (o.dy (fun k q => by omega)) ⟨⟨by rw [o.2 74 (by omega)]; exact h1, h2.mv (o.sm (fun k a b => by omega)), h3.mv (o.sm (fun k a b => by omega)), h4.mv (o.sm (fun k a b => by omega)), h5.mv (o.sm (fun k a b => by omega))⟩, g, ⟨⟨u, v, by rw [o.2 124 (by omega)]; exact h7⟩, h8.mv (o.sm (fun k a b => by omega)), h9.mv (o.sm (fun k a b => by omega))⟩, ⟨j, pl, by rw [o.2 132 (by omega)]; exact h10⟩, h11.mv (o.sm (fun k a b => by omega)), h12.mv (o.sm (fun k a b => by omega))⟩ (by rw [o.1]; exact h.2.2.2.2.2.2.2)
