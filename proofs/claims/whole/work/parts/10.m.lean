/-! the tape is laid (class) -/
def clk (S : St) (a : Int32) : Int32 := lg (sr S 0) (lg (sr S 1) a)
def shn (S : St) (k : Nat) : Int32 := (sr S 3).getD k 0 + clk S ((sr S 2).getD k 0)
/-- rings, times, heights of the first k rings, in the tape's order -/
def tpS (S : St) (bar : Int32) : Nat → List Int32 × List Int32 × List Int32
  | 0 => ([], [], [])
  | k + 1 => if (sr S 2).getD k 0 = bar then (inL (tpS S bar k).1 (lyP (tpS S bar k).2.1 (shn S k) (tpS S bar k).1.length) (nI k), inL (tpS S bar k).2.1 (lyP (tpS S bar k).2.1 (shn S k) (tpS S bar k).1.length) (shn S k), inL (tpS S bar k).2.2 (lyP (tpS S bar k).2.1 (shn S k) (tpS S bar k).1.length) ((sr S 4).getD k 0)) else tpS S bar k
theorem tpS_len (S : St) (bar : Int32) : ∀ k, (tpS S bar k).1.length ≤ k
  | 0 => Nat.le_refl 0
  | k + 1 => by
    have h := tpS_len S bar k
    unfold tpS
    by_cases z : (sr S 2).getD k 0 = bar
    · rw [if_pos z, inL_len (lyP_le _ _ _)]; omega
    · rw [if_neg z]; omega
theorem N_clock {M : Mm} {S : St} (n : NowAt M 1 S) (a : Int32) : fX6_clockOf M 1 a = some (clk S a) := by
  have q0 : gQ M 6 1 0 = some 2 := n.q 0 (by decide)
  have q1 : gQ M 6 1 1 = some 4 := n.q 1 (by decide)
  have w0 : Rw M 2 3 (sr S 0) := n.2.1 0 (by decide)
  have w1 : Rw M 4 6 (sr S 1) := n.2.1 1 (by decide)
  simp only [fX6_clockOf, n.c, q0, q1, R_at w0, R_at w1, Option.bind_some, clk]
theorem N_shown {M : Mm} {S : St} (n : NowAt M 1 S) {k : Nat} (hk : k < 2 ^ 31) : fX6_shownAt M 1 (nI k) = some (shn S k) := by
  have q2 : gQ M 6 1 2 = some 6 := n.q 2 (by decide)
  have q3 : gQ M 6 1 3 = some 8 := n.q 3 (by decide)
  have w2 : Rw M 6 96 (sr S 2) := n.2.1 2 (by decide)
  have w3 : Rw M 8 96 (sr S 3) := n.2.1 3 (by decide)
  simp only [fX6_shownAt, n.c, q2, q3, R_at w2, R_at w3, N_clock n, lg_nI hk, Option.bind_some, shn]
theorem N_rings {M : Mm} {S : St} (n : NowAt M 1 S) : fX6_rings M 1 = some (nI (sr S 2).length) := by
  have q2 : gQ M 6 1 2 = some 6 := n.q 2 (by decide)
  have w2 : Rw M 6 96 (sr S 2) := n.2.1 2 (by decide)
  simp only [fX6_rings, n.c, q2, R_size w2, Option.bind_some]
theorem C_layS {N t : Nat} {S : St} {bar : Int32} (ht : 74 ≤ t) (ht2 : t < 140) (hN : 2000 ≤ N) (hl : (sr S 2).length ≤ 96) : ∀ (k f : Nat) (M : Mm), k ≤ (sr S 2).length → k < f → NowAt M 1 S → Tp M t (tpS S bar ((sr S 2).length - k)).1 (tpS S bar ((sr S 2).length - k)).2.1 (tpS S bar ((sr S 2).length - k)).2.2 → ∃ M', LX7_lay_23 N f M t 1 bar (nI ((sr S 2).length - k)) = some M' ∧ Tp M' t (tpS S bar (sr S 2).length).1 (tpS S bar (sr S 2).length).2.1 (tpS S bar (sr S 2).length).2.2 ∧ Of (fun k => t + 1 ≤ k ∧ k < t + 7) M M' := by
  intro k
  induction k with
  | zero =>
    intro f M hk hf n h
    obtain ⟨f, rfl⟩ : ∃ g, f = g + 1 := ⟨f - 1, by omega⟩
    rw [Nat.sub_zero] at h ⊢
    refine ⟨M, ?_, h, Of.rf⟩
    show BX7_lay_23 N (LX7_lay_23 N f) M t 1 bar (nI (sr S 2).length) = some M
    unfold BX7_lay_23
    rw [N_rings n]
    simp only [Option.bind_some]
    rw [if_pos (nI_le (Nat.le_refl _) (by omega))]
  | succ k ih =>
    intro f M hk hf n h
    obtain ⟨f, rfl⟩ : ∃ g, f = g + 1 := ⟨f - 1, by omega⟩
    obtain ⟨c, hc⟩ : ∃ c, c = (sr S 2).length - (k + 1) := ⟨_, rfl⟩
    rw [← hc] at h ⊢
    have q2 : gQ M 6 1 2 = some 6 := n.q 2 (by decide)
    have q4 : gQ M 6 1 4 = some 10 := n.q 4 (by decide)
    have w2 : Rw M 6 96 (sr S 2) := n.2.1 2 (by decide)
    have w4 : Rw M 10 96 (sr S 4) := n.2.1 4 (by decide)
    have e1 : (sr S 2).length - k = c + 1 := by omega
    have eT : tpS S bar (c + 1) = if (sr S 2).getD c 0 = bar then (inL (tpS S bar c).1 (lyP (tpS S bar c).2.1 (shn S c) (tpS S bar c).1.length) (nI c), inL (tpS S bar c).2.1 (lyP (tpS S bar c).2.1 (shn S c) (tpS S bar c).1.length) (shn S c), inL (tpS S bar c).2.2 (lyP (tpS S bar c).2.1 (shn S c) (tpS S bar c).1.length) ((sr S 4).getD c 0)) else tpS S bar c := rfl
    have eB : LX7_lay_23 N (f + 1) M t 1 bar (nI c) = if (sr S 2).getD c 0 = bar then ((fX7_layRing N M t (nI c) (shn S c) ((sr S 4).getD c 0)).bind fun M22 => LX7_lay_23 N f M22 t 1 bar (nI (c + 1))) else LX7_lay_23 N f M t 1 bar (nI (c + 1)) := by
      show BX7_lay_23 N (LX7_lay_23 N f) M t 1 bar (nI c) = _
      unfold BX7_lay_23
      simp only [N_rings n, q2, q4, R_at w2, R_at w4, N_shown n (show c < 2 ^ 31 by omega), lg_nI (show c < 2 ^ 31 by omega), nI_1, Option.bind_some]
      rw [if_neg (nI_ge (by omega) (by omega))]
    rw [eB]
    by_cases z : (sr S 2).getD c 0 = bar
    · rw [if_pos z]
      rw [if_pos z] at eT
      have hlen := tpS_len S bar c
      obtain ⟨M1, a1, a2, a3⟩ := C_layRing h hN (by omega) (nI c) (shn S c) ((sr S 4).getD c 0)
      have n1 : NowAt M1 1 S := n.mv (a3.sm (fun k q1 q2 => by omega)) (a3.dy (fun k q => by omega))
      have q := ih f M1 (by omega) (by omega) n1
      rw [e1, eT] at q
      obtain ⟨M2, b1, b2, b3⟩ := q a2
      exact ⟨M2, by rw [a1]; exact b1, b2, a3.trans b3⟩
    · rw [if_neg z]
      rw [if_neg z] at eT
      have q := ih f M (by omega) (by omega) n
      rw [e1, eT] at q
      exact q h
