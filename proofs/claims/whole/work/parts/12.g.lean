/-! texts: the strings' places -/
theorem st_ll : ∀ s, s < 11 → (st_by.getD s []).length = st_len.getD s 0 ∧ st_len.getD s 0 ≤ 10 := by decide
theorem st_sm : ∀ s, s < 11 → ∀ v ∈ st_by.getD s [], wi v 0 127 := by decide
theorem c_b8 {c v : Int32} (hc : wi c 0 255) (hv : wi v 0 127) : v = c.toInt8.toInt32 ↔ v = c := by
  rw [wi_i] at hc hv
  have e0 : (0 : Int32).toInt = 0 := by decide
  have e1 : (255 : Int32).toInt = 255 := by decide
  have e2 : (127 : Int32).toInt = 127 := by decide
  rw [e0, e1] at hc
  rw [e0, e2] at hv
  have b := lg_i2b_toInt c
  by_cases z : c.toInt < 128
  · rw [lg_i2b_small (by omega) z]
  · have b' : c.toInt8.toInt32.toInt = c.toInt - 256 := by
      rw [b]
      show c.toInt.bmod 256 = _
      unfold Int.bmod
      simp only
      split <;> omega
    rw [i_eq, i_eq, b']
    omega
theorem J_ixL {N : Nat} {M : Mm} {s : Nat} {c : Int32} (hs : s < 11) (hc : wi c 0 255) : ∀ (k i f : Nat), i + k = (st_by.getD s []).length → k < f → LJ1_indexOfChar_4cfef_7 N f M s (nI (st_len.getD s 0)) c.toInt8.toInt32 (nI i) = some (if c ∈ (st_by.getD s []).drop i then nI (i + ((st_by.getD s []).drop i).idxOf c) else -1) := by
  obtain ⟨l1, l2⟩ := st_ll s hs
  intro k
  induction k with
  | zero =>
    intro i f hk hf
    obtain ⟨f, rfl⟩ : ∃ g, f = g + 1 := ⟨f - 1, by omega⟩
    show BJ1_indexOfChar_4cfef_7 N (LJ1_indexOfChar_4cfef_7 N f) M s _ _ _ = _
    unfold BJ1_indexOfChar_4cfef_7
    rw [if_pos (nI_le (by omega) (by omega)), List.drop_eq_nil_of_le (by omega), if_neg (by simp)]
  | succ k ih =>
    intro i f hk hf
    obtain ⟨f, rfl⟩ : ∃ g, f = g + 1 := ⟨f - 1, by omega⟩
    have q := ih (i + 1) f (by omega) (by omega)
    have hi : i < (st_by.getD s []).length := by omega
    have eb : sBy s (nI i) = some (st_by.getD s [])[i] := by
      unfold sBy
      rw [nI_clamp (by omega), if_pos ⟨hs, fun w => w.elim (nI_pos (by omega)) (by omega)⟩]
      show some ((st_by.getD s []).getD i 0) = _
      generalize st_by.getD s [] = l at hi ⊢
      simp [List.getD_eq_getElem?_getD, hi]
    show BJ1_indexOfChar_4cfef_7 N (LJ1_indexOfChar_4cfef_7 N f) M s _ _ _ = _
    unfold BJ1_indexOfChar_4cfef_7
    rw [if_neg (nI_ge (by omega) (by omega)), eb, nI_1]
    simp only [Option.bind_some]
    rw [List.drop_eq_getElem_cons hi]
    have hv := st_sm s hs _ (List.getElem_mem hi)
    by_cases z : (st_by.getD s [])[i] = c
    · rw [if_pos ((c_b8 hc hv).mpr z), if_pos (by rw [z]; exact List.mem_cons_self ..), List.idxOf_cons, z]
      simp
    · rw [if_neg (fun w => z ((c_b8 hc hv).mp w)), q]
      by_cases y : c ∈ (st_by.getD s []).drop (i + 1)
      · rw [if_pos y, if_pos (List.mem_cons_of_mem _ y), List.idxOf_cons]
        have : ((st_by.getD s [])[i] == c) = false := by simpa using z
        rw [this]
        simp only [cond_false]
        congr 2; omega
      · rw [if_neg y, if_neg (fun w => by
          rcases List.mem_cons.mp w with w | w
          · exact z w.symm
          · exact y w)]
theorem J_ix {N : Nat} {M : Mm} {s : Nat} {c : Int32} (hN : 2000 ≤ N) (hs : s < 11) (h0 : 0 < st_len.getD s 0) (hc : wi c 0 255) : fJ0_indexOf_0f7a4 N M s c = some (if c ∈ st_by.getD s [] then nI ((st_by.getD s []).idxOf c) else -1) := by
  obtain ⟨l1, l2⟩ := st_ll s hs
  have q := J_ixL (N := N) (M := M) hs hc (st_by.getD s []).length 0 N (by omega) (by omega)
  have k1 : sK s = some s := if_pos hs
  have e1 : fJ0_isLatin1_aae02 M s = some 1 := by
    unfold fJ0_isLatin1_aae02
    rw [if_neg (by decide), k1]
    rfl
  have e2 : fJ0_length_8abf5 M s = some (nI (st_len.getD s 0)) := by
    unfold fJ0_length_8abf5 fJ0_coder_7d493
    rw [k1, if_neg (by decide)]
    simp only [Option.bind_some]
    show some (nI (st_len.getD s 0) >>> ((0 : Int32) &&& 31)) = _
    rw [show ((0 : Int32) &&& 31) = 0 from by decide, pk_shrN (by omega) 0 0 (by decide), Nat.pow_zero, Nat.div_one]
  have e3 : fJ1_canEncode_9a6ad M c = some 1 := by
    unfold fJ1_canEncode_9a6ad
    rw [if_neg hc.1, if_neg hc.2]
  unfold fJ0_indexOf_0f7a4 fJ0_indexOf_7cf53 fJ1_indexOf_4cfef fJ1_indexOfChar_4cfef
  simp only [k1, e1, e2, e3, Option.bind_some, C_max, C_min]
  rw [if_neg (by decide), if_neg (by decide)]
  rw [show mx 0 0 = nI 0 from rfl, show (if sLn s < nI (st_len.getD s 0) then sLn s else nI (st_len.getD s 0)) = nI (st_len.getD s 0) from by
    rw [show sLn s = nI (st_len.getD s 0) from rfl, if_neg Int32.lt_irrefl], if_pos (nI_lt h0 (by omega)), q]
  rw [List.drop_zero, Nat.zero_add]
  rfl
/-! the reader's cells -/
def RdC (M : Mm) (xs : List Int32) (u p : Nat) (cs : List Int32) : Prop := M[132]? = some (.inr (2, [.ref 133, .ref 135, .float (UInt32.ofNat (nmI u)), .int (nI p)])) ∧ Rw M 133 50 cs ∧ Rw M 135 50 xs
theorem nmI_in (u : Nat) : nmI u = 1 ∨ nmI u = 2 := by
  unfold nmI
  by_cases h : u < 3
  · exact Or.inl (if_pos h)
  · exact Or.inr (if_neg h)
section RD
variable {N : Nat} {M : Mm} {xs cs : List Int32} {u p : Nat}
theorem RdC.adv (h : RdC M xs u p cs) : ∃ M', pF M 2 132 3 (.int (nI (p + 1))) = some M' ∧ RdC M' xs u (p + 1) cs ∧ Of (fun k => 132 ≤ k ∧ k < 137) M M' := by
  obtain ⟨h0, h1, h2⟩ := h
  have o : Of (fun k => k = 132) M (M.set 132 (.inr (2, [.ref 133, .ref 135, .float (UInt32.ofNat (nmI u)), .int (nI (p + 1))]))) := Of.set rfl
  have l := lt_of_at h0
  exact ⟨_, by rw [pF_ok h0 (k := 3) (Nat.le_of_ble_eq_true rfl)]; rfl, ⟨by simp [l], h1.of o (by omega) (by omega), h2.of o (by omega) (by omega)⟩, o.mono (fun k q => by omega)⟩
theorem RdC.add (h : RdC M xs u p cs) (hl : cs.length < 50) (v : Int32) : ∃ M', fX3_add M 133 v = some (1, M') ∧ RdC M' xs u p (cs ++ [v]) ∧ Of (fun k => 132 ≤ k ∧ k < 137) M M' := by
  obtain ⟨h0, h1, h2⟩ := h
  obtain ⟨M', a1, a2, a3⟩ := R_add h1 v hl
  exact ⟨M', a1, ⟨by rw [a3.2 _ (by omega)]; exact h0, a2, h2.of a3 (by omega) (by omega)⟩, a3.mono (fun k q => by omega)⟩
theorem RdC.f (h : RdC M xs u p cs) : gC M 2 132 = some 132 ∧ gQ M 2 132 0 = some 133 ∧ gQ M 2 132 1 = some 135 ∧ gI M 2 132 3 = some (nI p) ∧ gS M 2 132 2 = some (nmI u) := by
  refine ⟨gC_ok h.1, gQ_ok h.1 rfl, gQ_ok h.1 rfl, gI_ok h.1 rfl, ?_⟩
  have g : gF M 2 132 2 = some (.float (UInt32.ofNat (nmI u))) := by simp [gF, h.1]
  unfold gS
  rw [g]
  rcases nmI_in u with e | e <;> rw [e] <;> rfl
theorem nx_at (hp : p < xs.length) : nx xs p = xs.getD p 0 := if_pos hp
theorem C_next (h : RdC M xs u p cs) (hN : 2000 ≤ N) (hx : ∀ x ∈ xs, wi x 0 255) (hp : p ≤ xs.length) {s : Nat} (hs : s < 11) (h0 : 0 < st_len.getD s 0) : fX2_isNextOneOf N M 132 s = some (if nx xs p ∈ st_by.getD s [] then 1 else 0) := by
  obtain ⟨f0, f1, f2, f3, f4⟩ := h.f
  have l50 := h.2.2.1
  have k1 : sK s = some s := if_pos hs
  have m1 : (-1 : Int32) ∉ st_by.getD s [] := fun w => by
    have := (st_sm s hs _ w).1
    exact this (by decide)
  simp only [fX2_isNextOneOf, f0, f2, f3, Option.bind_some]
  by_cases z : p < xs.length
  · have hw := getD_wi hx (by decide) p
    obtain ⟨k, hk, ek⟩ := wi_ix (n := 255) (by decide) rfl hw
    have ec : ((xs.getD p 0).toUInt32 % 65536).toInt32 = xs.getD p 0 := by
      rw [ek, pk_char, pk_tn (by omega), Nat.mod_eq_of_lt (by omega)]
    rw [R_has1 h.2.2 z, nx_at z]
    simp only [Option.bind_some]
    rw [if_neg (by decide), R_at h.2.2, lg_nI (by omega)]
    simp only [Option.bind_some, k1, ec, J_ix hN hs h0 hw]
    by_cases y : xs.getD p 0 ∈ st_by.getD s []
    · have il := List.idxOf_lt_length_of_mem y
      obtain ⟨l1, l2⟩ := st_ll s hs
      rw [if_pos y, if_pos y, if_neg (nI_pos (by omega))]
    · rw [if_neg y, if_neg y, if_pos (by decide)]
  · rw [R_has0 h.2.2 (by rw [nI_clamp (by omega)]; omega)]
    simp only [Option.bind_some]
    rw [if_pos trivial, show nx xs p = -1 from if_neg z, if_neg m1]
theorem dg_in (c : Int32) : c ∈ st_by.getD 5 [] ↔ wi c 48 57 := by
  constructor
  · have D : ∀ c ∈ st_by.getD 5 [], wi c 48 57 := by decide
    exact D c
  · intro h
    have h' := wi_i.mp h
    rw [show (48 : Int32).toInt = 48 from by decide, show (57 : Int32).toInt = 57 from by decide] at h'
    obtain ⟨k, hk⟩ : ∃ k : Nat, c.toInt = 48 + k := ⟨(c.toInt - 48).toNat, by omega⟩
    have ec : c = nI (48 + k) := by rw [i_eq, hk, nI_toInt (by omega)]; omega
    have hk9 : k ≤ 9 := by omega
    rw [ec]
    have D : ∀ k, k < 10 → nI (48 + k) ∈ st_by.getD 5 [] := by decide
    exact D k (by omega)
theorem C_numL (hN : 2000 ≤ N) (hx : ∀ x ∈ xs, wi x 0 255) : ∀ (k f p q : Nat) (M : Mm) (v : Int32), k ≤ 4 → k < f → p ≤ xs.length → q + (4 - k) = p → cs.length < 50 → RdC M xs u p cs → ∃ M', LX2_readNumber_4 N f M 132 v (nI (4 - k)) = some (if (nbR xs k p v).1 = q then 0 else 1, M') ∧ RdC M' xs u (nbR xs k p v).1 (if (nbR xs k p v).1 = q then cs else cs ++ [(nbR xs k p v).2]) ∧ Of (fun k => 132 ≤ k ∧ k < 137) M M' := by
  have J : ∀ (j p q : Nat) (M : Mm) (v : Int32), j ≤ 4 → q + j = p → cs.length < 50 → RdC M xs u p cs → ∃ M', jX2_readNumber_54 N M 132 v (nI j) = some (if p = q then 0 else 1, M') ∧ RdC M' xs u p (if p = q then cs else cs ++ [v]) ∧ Of (fun k => 132 ≤ k ∧ k < 137) M M' := by
    intro j p q M v hj hq hl h
    unfold jX2_readNumber_54
    by_cases z : p = q
    · rw [if_pos z, if_pos z, if_pos (show nI j = 0 from by rw [show j = 0 by omega]; rfl)]
      exact ⟨M, rfl, h, Of.rf⟩
    · rw [if_neg z, if_neg z, if_neg (nI_ne0 (by omega) (by omega))]
      obtain ⟨M1, a1, a2, a3⟩ := h.add hl v
      refine ⟨M1, ?_, a2, a3⟩
      rw [h.f.2.1, Option.bind_some, a1]
      rfl
  intro k
  induction k with
  | zero =>
    intro f p q M v hk hf hp hq hl h
    obtain ⟨f, rfl⟩ : ∃ g, f = g + 1 := ⟨f - 1, by omega⟩
    show ∃ M', BX2_readNumber_4 N (LX2_readNumber_4 N f) M 132 v (nI 4) = some (if p = q then 0 else 1, M') ∧ RdC M' xs u p (if p = q then cs else cs ++ [v]) ∧ _
    unfold BX2_readNumber_4
    rw [if_pos (by decide)]
    exact J 4 p q M v (by omega) (by omega) hl h
  | succ k ih =>
    intro f p q M v hk hf hp hq hl h
    obtain ⟨f, rfl⟩ : ∃ g, f = g + 1 := ⟨f - 1, by omega⟩
    obtain ⟨f0, f1, f2, f3, f4⟩ := h.f
    have l50 := h.2.2.1
    have e : nbR xs (k + 1) p v = if wi (nx xs p) 48 57 then nbR xs k (p + 1) (10 * v + nx xs p - 48) else (p, v) := rfl
    show ∃ M', BX2_readNumber_4 N (LX2_readNumber_4 N f) M 132 v (nI (4 - (k + 1))) = _ ∧ _
    unfold BX2_readNumber_4
    rw [if_neg (show ¬ (4 : Int32) ≤ nI (4 - (k + 1)) from nI_ge (b := 4) (by omega) (by decide)), C_next h hN hx hp (s := 5) (by decide) (by decide)]
    simp only [Option.bind_some, gd]
    by_cases z : wi (nx xs p) 48 57
    · rw [if_pos ((dg_in _).mpr z), e, if_pos z]
      have hp1 := nx_in ((dg_in _).mpr z) (by decide)
      obtain ⟨M1, a1, a2, a3⟩ := h.adv
      obtain ⟨M2, b1, b2, b3⟩ := ih f (p + 1) q M1 (10 * v + nx xs p - 48) (by omega) (by omega) (by omega) (by omega) hl a2
      refine ⟨M2, ?_, b2, a3.trans b3⟩
      simp only [f2, f3, R_at h.2.2, lg_nI (show p < 2 ^ 31 by omega), Option.bind_some, nI_1, a1]
      rw [← nx_at hp1, show 4 - (k + 1) + 1 = 4 - k by omega]
      exact b1
    · rw [if_neg (fun w => z ((dg_in _).mp w)), e, if_neg z]
      exact J (4 - (k + 1)) p q M v (by omega) (by omega) hl h
theorem C_num (hN : 2000 ≤ N) (hx : ∀ x ∈ xs, wi x 0 255) (hp : p ≤ xs.length) (hl : cs.length < 50) (h : RdC M xs u p cs) : ∃ M', fX2_readNumber N M 132 = some (if (num xs (p, cs)).1 = true then 1 else 0, M') ∧ RdC M' xs u (num xs (p, cs)).2.1 (num xs (p, cs)).2.2 ∧ Of (fun k => 132 ≤ k ∧ k < 137) M M' := by
  obtain ⟨M1, a1, a2, a3⟩ := C_numL (N := N) hN hx 4 N p p M 0 (Nat.le_refl _) (by omega) hp (by omega) hl h
  refine ⟨M1, ?_, ?_, a3⟩
  · simp only [fX2_readNumber, h.f.1, Option.bind_some]
    rw [show LX2_readNumber_4 N N M 132 0 0 = _ from a1]
    unfold num
    by_cases z : (nbR xs 4 p 0).1 = p
    · rw [if_pos z, if_pos z]; rfl
    · rw [if_neg z, if_neg z]; rfl
  · unfold num
    show RdC M1 xs u (if (nbR xs 4 p 0).1 = p then (false, p, cs) else (true, (nbR xs 4 p 0).1, cs ++ [(nbR xs 4 p 0).2])).2.1 (if (nbR xs 4 p 0).1 = p then (false, p, cs) else (true, (nbR xs 4 p 0).1, cs ++ [(nbR xs 4 p 0).2])).2.2
    by_cases z : (nbR xs 4 p 0).1 = p
    · rw [if_pos z] at a2 ⊢
      rw [z] at a2
      exact a2
    · rw [if_neg z] at a2 ⊢
      exact a2
end RD
