/-! counting -/
def kS (σ : Sg) (l : List Int32) : Sg := (((g0 σ).1, (g0 σ).2.1, sk (g0 σ) ++ [l], (g0 σ).2.2.2), σ.2)
def sp_counting (σ : Sg) (a ab l w d : Int32) : An := if wi a 0 7 ∧ isP (g0 σ) ab ∧ wi l 0 999 ∧ wi w 0 50 ∧ wi d 1 999 then (if (sk (g0 σ)).length < 12 then (nI (sk (g0 σ)).length, kS σ [nI (sk (g0 σ)).length, a, ab, l, w, d]) else er σ 4) else er σ 1
theorem grow_at {M : Mm} {x : va_E} {k : Nat} (hk : k < M.length) : (M ++ [x])[k]? = M[k]? := List.getElem?_append_left hk
theorem RelC.grow {M : Mm} {σ : Sg} (h : RelC M σ) (x : va_E) : RelC (M ++ [x]) σ ∧ FrC M (M ++ [x]) ∧ Dy M (M ++ [x]) := by
  have hl : 153 ≤ M.length := h.2.2.2.2.2.2.2
  have s : ∀ lo hi, hi ≤ 153 → Sm lo hi M (M ++ [x]) := fun lo hi q k _ hk => grow_at (by omega)
  have d : Dy M (M ++ [x]) := Dy.of fun k y _ hy => by rw [grow_at (lt_of_at hy)]; exact hy
  refine ⟨h.scr (s _ _ (by omega)) (s _ _ (by omega)) d (h.2.2.2.2.2.2.1.mv (s _ _ (by omega)) (s _ _ (by omega))) (by simp; omega), ⟨by simp, s _ _ (by omega)⟩, d⟩
theorem pF_end {M : Mm} {ci k : Nat} {fs : List Value} {v : Value} (hk : k < fs.length) : pF (M ++ [.inr (ci, fs)]) ci M.length k v = some (M ++ [.inr (ci, fs.set k v)]) := by
  have e : (M ++ [Sum.inr (ci, fs)])[M.length]? = some (.inr (ci, fs)) := by simp
  rw [pF_ok e hk]
  simp
theorem C_newCounting {M : Mm} (n a b c d e : Int32) : fX0_init (nO M 0 [.int 0, .int 0, .int 0, .int 0, .int 0, .int 0]) M.length n a b c d e = some (M ++ [.inr (0, [.int n, .int a, .int b, .int c, .int d, .int e])]) := by
  unfold fX0_init nO
  rw [pF_end (Nat.le_of_ble_eq_true rfl)]
  simp only [Option.bind_some, List.set]
  rw [pF_end (Nat.le_of_ble_eq_true rfl)]
  simp only [Option.bind_some, List.set]
  rw [pF_end (Nat.le_of_ble_eq_true rfl)]
  simp only [Option.bind_some, List.set]
  rw [pF_end (Nat.le_of_ble_eq_true rfl)]
  simp only [Option.bind_some, List.set]
  rw [pF_end (Nat.le_of_ble_eq_true rfl)]
  simp only [Option.bind_some, List.set]
  rw [pF_end (Nat.le_of_ble_eq_true rfl)]
  rfl
theorem C_addCounting {M : Mm} {σ : Sg} (h : RelC M σ) {q : Nat} {l : List Int32} (hq : CntAt M q l) (hl : (sk (g0 σ)).length < 12) : ∃ M', fX6_addCounting M 1 q = some M' ∧ RelC M' (kS σ l) ∧ FrC M M' := by
  have n1 := h.2.1
  obtain ⟨f, s1, ⟨s2, s2'⟩, s3⟩ := n1.2.2.2
  have q7 : gQ M 6 1 7 = some 15 := gQ_ok n1.1 rfl
  have ho : isO M 0 (some q) = true := by simp [isO, hq.2.2]
  have l1 := lt_of_at s1
  have l2 := lt_of_at n1.1
  obtain ⟨M1, hM1⟩ : ∃ M1, M1 = M.set 15 (.inl (3, 12, .inr (.inr (.inr (.inr (va_up f (sk (g0 σ)).length (some q))))))) := ⟨_, rfl⟩
  have o1 : Of (fun x => x = 15) M M1 := by rw [hM1]; exact Of.set rfl
  have e1 : sR M 3 0 15 (nI (sk (g0 σ)).length) (some q) = some M1 := by rw [hM1]; exact sR_ok s1 hl (by decide) ho
  have m1 : M1[1]? = some (.inr (6, soF 1 (sk (g0 σ)).length (sz (g0 σ)))) := by rw [o1.2 _ (by omega)]; exact n1.1
  have l3 := lt_of_at m1
  obtain ⟨M2, hM2⟩ : ∃ M2, M2 = M1.set 1 (.inr (6, (soF 1 (sk (g0 σ)).length (sz (g0 σ))).set 8 (.int (nI ((sk (g0 σ)).length + 1))))) := ⟨_, rfl⟩
  have o2 : Of (fun x => x = 1) M1 M2 := by rw [hM2]; exact Of.set rfl
  have e2 : pF M1 6 1 8 (.int (nI ((sk (g0 σ)).length + 1))) = some M2 := by rw [hM2]; exact pF_ok m1 (Nat.le_of_ble_eq_true rfl)
  have o : Of (fun x => x = 1 ∨ x = 15) M M2 := (o1.mono (fun x q => Or.inr q)).trans (o2.mono (fun x q => Or.inl q))
  have d : Dy M M2 := o.dy (fun x q => by omega)
  have nw : NowAt M2 1 ((g0 σ).1, (g0 σ).2.1, sk (g0 σ) ++ [l], (g0 σ).2.2.2) := by
    obtain ⟨-, h2, ⟨f3, h3, h4⟩, -⟩ := n1
    have el : (sk (g0 σ) ++ [l]).length = (sk (g0 σ)).length + 1 := by simp
    refine ⟨?_, fun i hi => (h2 i hi).of o ?_ ?_, ⟨f3, by rw [o.2 _ (by omega)]; exact h3, fun u hu => (h4 u hu).mv d⟩, va_up f (sk (g0 σ)).length (some q), ?_, ⟨?_, fun u hu => ?_⟩, fun u hu => ?_⟩
    · show M2[1]? = some (.inr (6, soF 1 (sk (g0 σ) ++ [l]).length (sz (g0 σ))))
      rw [el, hM2]
      simp [l3]
      rfl
    · have := ro_lt i hi; omega
    · have := ro_lt i hi; omega
    · rw [o2.2 _ (by omega), hM1]; simp [l1]
    · show (sk (g0 σ) ++ [l]).length ≤ 12
      omega
    · have hu' : (sk (g0 σ) ++ [l]).length ≤ u := hu
      rw [va_up_ne _ _ (by omega)]
      exact s2' u (by omega)
    · have hu' : u < (sk (g0 σ) ++ [l]).length := hu
      show ∃ q2, va_up f (sk (g0 σ)).length (some q) u = some q2 ∧ CntAt M2 q2 ((sk (g0 σ) ++ [l]).getD u [])
      by_cases z : u = (sk (g0 σ)).length
      · subst z
        refine ⟨q, va_up_self _ _ _, ?_⟩
        rw [show (sk (g0 σ) ++ [l]).getD (sk (g0 σ)).length [] = l by simp [List.getD_eq_getElem?_getD]]
        exact d.2 _ _ hq
      · obtain ⟨q2, z1, z2⟩ := s3 u (by omega)
        refine ⟨q2, by rw [va_up_ne _ _ z]; exact z1, ?_⟩
        rw [show (sk (g0 σ) ++ [l]).getD u [] = (sk (g0 σ)).getD u [] by rw [List.getD_eq_getElem?_getD, List.getD_eq_getElem?_getD, List.getElem?_append_left (by omega)]]
        exact d.2 _ _ z2
  refine ⟨M2, ?_, h.now (o.mono (fun x q => by omega)) nw, o.frC (fun x q => by omega)⟩
  simp only [fX6_addCounting, n1.c, n1.n, q7, aL_ok s1 (by decide), Option.bind_some, if_neg (nI_pos (show (sk (g0 σ)).length < 2 ^ 31 by omega)), if_neg (nI_ge hl (by decide)), e1, gI_ok m1 (k := 8) rfl, nI_1, e2]
theorem C_counting {M : Mm} {σ : Sg} (h : RelC M σ) (hI : Ig σ) (a ab l w d : Int32) : DoC M (fX10_counting M 0 a ab l w d) (sp_counting σ a ab l w d) := by
  have J := DoC.er h (a := 1) 1 rfl (by decide)
  have J4 := DoC.er h (a := 4) 4 rfl (by decide)
  have hk : (sk (g0 σ)).length ≤ 12 := hI.1.K
  have hM : 153 ≤ M.length := h.2.2.2.2.2.2.2
  have ec : fX6_countings M 1 = some (nI (sk (g0 σ)).length) := by
    simp only [fX6_countings, h.2.1.c, h.2.1.n, Option.bind_some]
  unfold fX10_counting sp_counting jX10_counting_42
  simp only [h.c, h.q0, ec, C_isKind, C_isPair h, C_isLine, C_isWindow, C_within, gd, Option.bind_some]
  by_cases g : wi a 0 7 ∧ isP (g0 σ) ab ∧ wi l 0 999 ∧ wi w 0 50 ∧ wi d 1 999
  · rw [if_pos g, if_pos g.1, if_pos g.2.1, if_pos g.2.2.1, if_pos g.2.2.2.1, if_pos g.2.2.2.2]
    by_cases z : (sk (g0 σ)).length < 12
    · rw [if_pos (show nI (sk (g0 σ)).length < 12 from nI_lt (b := 12) z (by decide)), if_pos z, C_newCounting]
      obtain ⟨r1, r2, r3⟩ := h.grow (.inr (0, [.int (nI (sk (g0 σ)).length), .int a, .int ab, .int l, .int w, .int d]))
      have hq : CntAt (M ++ [.inr (0, [.int (nI (sk (g0 σ)).length), .int a, .int ab, .int l, .int w, .int d])]) M.length [nI (sk (g0 σ)).length, a, ab, l, w, d] := ⟨hM, rfl, by simp⟩
      obtain ⟨M', e1, e2, e3⟩ := C_addCounting r1 hq z
      simp only [Option.bind_some, e1]
      exact ⟨M', rfl, e2, r2.trans e3⟩
    · rw [if_neg (show ¬ nI (sk (g0 σ)).length < 12 from nI_nlt (b := 12) (by omega) (by omega)), if_neg z]
      exact J4
  · rw [if_neg g]
    by_cases c1 : wi a 0 7
    · rw [if_pos c1]
      by_cases c2 : isP (g0 σ) ab
      · rw [if_pos c2]
        by_cases c3 : wi l 0 999
        · rw [if_pos c3]
          by_cases c4 : wi w 0 50
          · rw [if_pos c4, if_neg (fun q => g ⟨c1, c2, c3, c4, q⟩)]; exact J
          · rw [if_neg c4]; exact J
        · rw [if_neg c3]; exact J
      · rw [if_neg c2]; exact J
    · rw [if_neg c1]; exact J
