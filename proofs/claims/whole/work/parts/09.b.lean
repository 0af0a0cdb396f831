/-! ===== the simple acts ===== -/
theorem i10 {α : Type} {a b : α} : (if (1 : Int32) = 0 then a else b) = b := if_neg (by decide)
theorem i00 {α : Type} {a b : α} : (if (0 : Int32) = 0 then a else b) = a := if_pos rfl
theorem bd2_s {α γ β : Type} {x : α} {y : γ} {f : α → γ → Option β} : bd2 (some (x, y)) f = f x y := rfl
theorem wi_ix {x y : Int32} {n : Nat} (hn : n < 2 ^ 31) (hy : y = nI n) (h : wi x 0 y) : ∃ j, j ≤ n ∧ x = nI j := by
  subst hy
  exact nI_of2 (nI_toInt hn) h.1 (Int32.not_lt.mp h.2)
theorem zr1 : zr 1 = some 1 := by decide
theorem zr0 : zr 0 = some 0 := by decide
section RI
variable {M M' : Mm} {σ : Sg} {ys : List Int32}
theorem RelC.f0 (h : RelC M σ) : gQ M 6 1 0 = some 2 := h.2.1.q 0 (by decide)
theorem RelC.w0 (h : RelC M σ) : Rw M 2 3 (sr (g0 σ) 0) := h.2.1.2.1 0 (by decide)
theorem RelC.u0 (h : RelC M σ) (o : Of (fun k => k = 2 ∨ k = 2 + 1) M M') (n : Rw M' 2 3 ys) : RelC M' (srow (g0 σ) 0 ys, σ.2) := h.now (Of.now (i := 0) (by decide) o) (h.2.1.row (i := 0) (by decide) (Or.inl rfl) o n)
theorem RelC.f1 (h : RelC M σ) : gQ M 6 1 1 = some 4 := h.2.1.q 1 (by decide)
theorem RelC.w1 (h : RelC M σ) : Rw M 4 6 (sr (g0 σ) 1) := h.2.1.2.1 1 (by decide)
theorem RelC.u1 (h : RelC M σ) (o : Of (fun k => k = 4 ∨ k = 4 + 1) M M') (n : Rw M' 4 6 ys) : RelC M' (srow (g0 σ) 1 ys, σ.2) := h.now (Of.now (i := 1) (by decide) o) (h.2.1.row (i := 1) (by decide) (Or.inl rfl) o n)
theorem RelC.f2 (h : RelC M σ) : gQ M 6 1 2 = some 6 := h.2.1.q 2 (by decide)
theorem RelC.w2 (h : RelC M σ) : Rw M 6 96 (sr (g0 σ) 2) := h.2.1.2.1 2 (by decide)
theorem RelC.u2 (h : RelC M σ) (o : Of (fun k => k = 6 ∨ k = 6 + 1) M M') (n : Rw M' 6 96 ys) : RelC M' (srow (g0 σ) 2 ys, σ.2) := h.now (Of.now (i := 2) (by decide) o) (h.2.1.row (i := 2) (by decide) (Or.inl rfl) o n)
theorem RelC.f3 (h : RelC M σ) : gQ M 6 1 3 = some 8 := h.2.1.q 3 (by decide)
theorem RelC.w3 (h : RelC M σ) : Rw M 8 96 (sr (g0 σ) 3) := h.2.1.2.1 3 (by decide)
theorem RelC.u3 (h : RelC M σ) (o : Of (fun k => k = 8 ∨ k = 8 + 1) M M') (n : Rw M' 8 96 ys) : RelC M' (srow (g0 σ) 3 ys, σ.2) := h.now (Of.now (i := 3) (by decide) o) (h.2.1.row (i := 3) (by decide) (Or.inl rfl) o n)
theorem RelC.f4 (h : RelC M σ) : gQ M 6 1 4 = some 10 := h.2.1.q 4 (by decide)
theorem RelC.w4 (h : RelC M σ) : Rw M 10 96 (sr (g0 σ) 4) := h.2.1.2.1 4 (by decide)
theorem RelC.u4 (h : RelC M σ) (o : Of (fun k => k = 10 ∨ k = 10 + 1) M M') (n : Rw M' 10 96 ys) : RelC M' (srow (g0 σ) 4 ys, σ.2) := h.now (Of.now (i := 4) (by decide) o) (h.2.1.row (i := 4) (by decide) (Or.inl rfl) o n)
theorem RelC.f5 (h : RelC M σ) : gQ M 6 1 5 = some 12 := h.2.1.q 5 (by decide)
theorem RelC.w5 (h : RelC M σ) : Rw M 12 50 (sr (g0 σ) 5) := h.2.1.2.1 5 (by decide)
theorem RelC.u5 (h : RelC M σ) (o : Of (fun k => k = 12 ∨ k = 12 + 1) M M') (n : Rw M' 12 50 ys) : RelC M' (srow (g0 σ) 5 ys, σ.2) := h.now (Of.now (i := 5) (by decide) o) (h.2.1.row (i := 5) (by decide) (Or.inl rfl) o n)
theorem RelC.f6 (h : RelC M σ) : gQ M 6 1 9 = some 16 := h.2.1.q 6 (by decide)
theorem RelC.w6 (h : RelC M σ) : Rw M 16 6 (sr (g0 σ) 6) := h.2.1.2.1 6 (by decide)
theorem RelC.u6 (h : RelC M σ) (o : Of (fun k => k = 16 ∨ k = 16 + 1) M M') (n : Rw M' 16 6 ys) : RelC M' (srow (g0 σ) 6 ys, σ.2) := h.now (Of.now (i := 6) (by decide) o) (h.2.1.row (i := 6) (by decide) (Or.inl rfl) o n)
theorem RelC.f7 (h : RelC M σ) : gQ M 6 1 10 = some 18 := h.2.1.q 7 (by decide)
theorem RelC.w7 (h : RelC M σ) : Rw M 18 10 (sr (g0 σ) 7) := h.2.1.2.1 7 (by decide)
theorem RelC.u7 (h : RelC M σ) (o : Of (fun k => k = 18 ∨ k = 18 + 1) M M') (n : Rw M' 18 10 ys) : RelC M' (srow (g0 σ) 7 ys, σ.2) := h.now (Of.now (i := 7) (by decide) o) (h.2.1.row (i := 7) (by decide) (Or.inl rfl) o n)
theorem RelC.f8 (h : RelC M σ) : gQ M 6 1 11 = some 20 := h.2.1.q 8 (by decide)
theorem RelC.w8 (h : RelC M σ) : Rw M 20 6 (sr (g0 σ) 8) := h.2.1.2.1 8 (by decide)
theorem RelC.u8 (h : RelC M σ) (o : Of (fun k => k = 20 ∨ k = 20 + 1) M M') (n : Rw M' 20 6 ys) : RelC M' (srow (g0 σ) 8 ys, σ.2) := h.now (Of.now (i := 8) (by decide) o) (h.2.1.row (i := 8) (by decide) (Or.inl rfl) o n)
theorem RelC.f9 (h : RelC M σ) : gQ M 6 1 12 = some 22 := h.2.1.q 9 (by decide)
theorem RelC.w9 (h : RelC M σ) : Rw M 22 8 (sr (g0 σ) 9) := h.2.1.2.1 9 (by decide)
theorem RelC.u9 (h : RelC M σ) (o : Of (fun k => k = 22 ∨ k = 22 + 1) M M') (n : Rw M' 22 8 ys) : RelC M' (srow (g0 σ) 9 ys, σ.2) := h.now (Of.now (i := 9) (by decide) o) (h.2.1.row (i := 9) (by decide) (Or.inl rfl) o n)
theorem RelC.f10 (h : RelC M σ) : gQ M 6 1 13 = some 24 := h.2.1.q 10 (by decide)
theorem RelC.w10 (h : RelC M σ) : Rw M 24 8 (sr (g0 σ) 10) := h.2.1.2.1 10 (by decide)
theorem RelC.u10 (h : RelC M σ) (o : Of (fun k => k = 24 ∨ k = 24 + 1) M M') (n : Rw M' 24 8 ys) : RelC M' (srow (g0 σ) 10 ys, σ.2) := h.now (Of.now (i := 10) (by decide) o) (h.2.1.row (i := 10) (by decide) (Or.inl rfl) o n)
theorem RelC.f11 (h : RelC M σ) : gQ M 6 1 14 = some 26 := h.2.1.q 11 (by decide)
theorem RelC.w11 (h : RelC M σ) : Rw M 26 8 (sr (g0 σ) 11) := h.2.1.2.1 11 (by decide)
theorem RelC.u11 (h : RelC M σ) (o : Of (fun k => k = 26 ∨ k = 26 + 1) M M') (n : Rw M' 26 8 ys) : RelC M' (srow (g0 σ) 11 ys, σ.2) := h.now (Of.now (i := 11) (by decide) o) (h.2.1.row (i := 11) (by decide) (Or.inl rfl) o n)
theorem RelC.f12 (h : RelC M σ) : gQ M 6 1 15 = some 28 := h.2.1.q 12 (by decide)
theorem RelC.w12 (h : RelC M σ) : Rw M 28 20 (sr (g0 σ) 12) := h.2.1.2.1 12 (by decide)
theorem RelC.u12 (h : RelC M σ) (o : Of (fun k => k = 28 ∨ k = 28 + 1) M M') (n : Rw M' 28 20 ys) : RelC M' (srow (g0 σ) 12 ys, σ.2) := h.now (Of.now (i := 12) (by decide) o) (h.2.1.row (i := 12) (by decide) (Or.inl rfl) o n)
end RI
theorem gd0 {xs : List Int32} {j : Nat} (h : j < xs.length) : xs[j]? = some (xs.getD j 0) := by simp [List.getD_eq_getElem?_getD, h]
theorem getD_set {xs : List Int32} {j k : Nat} {v : Int32} (hj : j < xs.length) : (xs.set j v).getD k 0 = if k = j then v else xs.getD k 0 := by
  by_cases e : k = j
  · subst e
    simp [List.getD_eq_getElem?_getD, hj]
  · simp [List.getD_eq_getElem?_getD, List.getElem?_set_ne (Ne.symm e), e]
theorem getD_app {xs : List Int32} {k : Nat} {v : Int32} : (xs ++ [v]).getD k 0 = if k = xs.length then v else xs.getD k 0 := by
  by_cases e : k = xs.length
  · subst e
    simp [List.getD_eq_getElem?_getD]
  · rw [if_neg e, List.getD_eq_getElem?_getD, List.getD_eq_getElem?_getD]
    rcases Nat.lt_or_ge k xs.length with g | g
    · rw [List.getElem?_append_left g]
    · rw [List.getElem?_eq_none (by simp; omega), List.getElem?_eq_none g]
theorem sr_row {S : St} {i j : Nat} {ys : List Int32} : sr (srow S i ys) j = if j = i then ys else sr S j := rfl
/-- texts, countings and z are read beyond the rows -/
theorem TwT.up {f : Nat → Int32} {u p : Nat} {v : Int32} {t : Option (List Int32)} (h : TwT f u t) (hp : p < 482) : TwT (upd f p v) u t := by
  cases t with
  | none => show upd f p v _ = 0; rw [pk_un (by omega)]; exact h
  | some code =>
    obtain ⟨h1, h2, h3⟩ := h
    exact ⟨by rw [pk_un (by omega)]; exact h1, by rw [pk_un (by omega)]; exact h2, fun k hk => by rw [pk_un (by omega)]; exact h3 k hk⟩
theorem TwS.set {f : Nat → Int32} {S : St} {i j : Nat} {v : Int32} (h : TwS f S) (hL : ∀ i, i < 13 → (sr S i).length ≤ rc i) (hk : (sk S).length ≤ 12) (hi : i < 13) (hj : j < (sr S i).length) : TwS (upd f (tix i j) v) (srow S i ((sr S i).set j v)) := by
  obtain ⟨⟨c0, c1, c2, c3, c4, c5, c6, c7, c8⟩, h1, h2, h3⟩ := h
  have hj' := Nat.lt_of_lt_of_le hj (hL i hi)
  have b := tix_in i hi j hj'
  have ln : ∀ k, (sr (srow S i ((sr S i).set j v)) k).length = (sr S k).length := fun k => by
    rw [sr_row]
    by_cases e : k = i
    · subst e; simp
    · simp [e]
  refine ⟨?_, fun k hk' l hl => ?_, fun c hc w hw => ?_, fun u hu => (h3 u hu).up b.2.1⟩
  · simp only [ln]
    refine ⟨?_, ?_, ?_, ?_, ?_, ?_, ?_, ?_, ?_⟩ <;> (rw [pk_un (by omega)]; assumption)
  · rw [ln] at hl
    rw [sr_row]
    by_cases e : k = i
    · subst e
      rw [if_pos rfl, getD_set hj]
      by_cases e2 : l = j
      · subst e2
        rw [pk_us, if_pos rfl]
      · rw [if_neg e2, pk_un (fun q => e2 (tix_inj hi (Nat.lt_of_lt_of_le hl (hL k hi)) hi hj' q).2)]
        exact h1 k hk' l hl
    · rw [if_neg e, pk_un (fun q => e (tix_inj hk' (Nat.lt_of_lt_of_le hl (hL k hk')) hi hj' q).1)]
      exact h1 k hk' l hl
  · rw [pk_un (by have : c < 12 := Nat.lt_of_lt_of_le hc hk; omega)]
    exact h2 c hc w hw
/-- one more number at the end of row i, its count (place cn) not yet told -/
theorem TwS.put {f : Nat → Int32} {S : St} {i : Nat} {v : Int32} (h : TwS f S) (hL : ∀ i, i < 13 → (sr S i).length ≤ rc i) (hk : (sk S).length ≤ 12) (hi : i < 13) (hj : (sr S i).length < rc i) :
    (∀ p, p < 9 → upd f (tix i (sr S i).length) v p = f p) ∧ (∀ k, k < 13 → ∀ l, l < (sr (srow S i (sr S i ++ [v])) k).length → upd f (tix i (sr S i).length) v (tix k l) = (sr (srow S i (sr S i ++ [v])) k).getD l 0) ∧ (∀ c, c < (sk S).length → ∀ w, w < 5 → upd f (tix i (sr S i).length) v (306 + 5 * c + w) = ((sk S).getD c []).getD (w + 1) 0) ∧ ∀ u, u < 9 → TwT (upd f (tix i (sr S i).length) v) u (sx S u) := by
  obtain ⟨-, h1, h2, h3⟩ := h
  have b := tix_in i hi _ hj
  refine ⟨fun p hp => pk_un (by omega), fun k hk' l hl => ?_, fun c hc w hw => ?_, fun u hu => (h3 u hu).up b.2.1⟩
  · rw [sr_row] at hl ⊢
    by_cases e : k = i
    · subst e
      rw [if_pos rfl] at hl ⊢
      rw [getD_app]
      simp at hl
      by_cases e2 : l = (sr S k).length
      · subst e2
        rw [pk_us, if_pos rfl]
      · rw [if_neg e2, pk_un (fun q => e2 (tix_inj hi (by omega) hi hj q).2)]
        exact h1 k hk' l (by omega)
    · rw [if_neg e] at hl ⊢
      rw [pk_un (fun q => e (tix_inj hk' (Nat.lt_of_lt_of_le hl (hL k hk')) hi hj q).1)]
      exact h1 k hk' l hl
  · rw [pk_un (by have : c < 12 := Nat.lt_of_lt_of_le hc hk; omega)]
    exact h2 c hc w hw
/-- of row i, which has a count of its own -/
theorem TwS.add {f : Nat → Int32} {S : St} {i : Nat} {v : Int32} (h : TwS f S) (hL : ∀ i, i < 13 → (sr S i).length ≤ rc i) (hk : (sk S).length ≤ 12) (hi : i = 1 ∨ i = 6 ∨ i = 7 ∨ i = 5 ∨ i = 12) (hj : (sr S i).length < rc i) : TwS (upd (upd f (tix i (sr S i).length) v) (tn i) (nI ((sr S i).length + 1))) (srow S i (sr S i ++ [v])) := by
  have hi13 : i < 13 := by omega
  obtain ⟨p0, p1, p2, p3⟩ := h.put (v := v) hL hk hi13 hj
  obtain ⟨⟨c0, c1, c2, c3, c4, c5, c6, c7, c8⟩, -⟩ := h
  have htn : tn i < 9 := by rcases hi with rfl | rfl | rfl | rfl | rfl <;> decide
  have ln : ∀ k, k ≠ i → (sr (srow S i (sr S i ++ [v])) k).length = (sr S k).length := fun k e => by rw [sr_row, if_neg e]
  have li : (sr (srow S i (sr S i ++ [v])) i).length = (sr S i).length + 1 := by rw [sr_row, if_pos rfl]; simp
  refine ⟨?_, fun k hk' l hl => ?_, fun c hc w hw => ?_, fun u hu => ?_⟩
  · rcases hi with rfl | rfl | rfl | rfl | rfl
    · exact ⟨by rw [li]; exact pk_us, by rw [pk_un (by decide), p0 1 (by decide), ln 2 (by decide)]; exact c1, by rw [pk_un (by decide), p0 2 (by decide)]; exact c2, by rw [pk_un (by decide), p0 3 (by decide), ln 6 (by decide)]; exact c3, by rw [pk_un (by decide), p0 4 (by decide), ln 7 (by decide)]; exact c4, by rw [pk_un (by decide), p0 5 (by decide), ln 10 (by decide)]; exact c5, by rw [pk_un (by decide), p0 6 (by decide), ln 5 (by decide)]; exact c6, by rw [pk_un (by decide), p0 7 (by decide), ln 12 (by decide)]; exact c7, by rw [pk_un (by decide), p0 8 (by decide)]; exact c8⟩
    · exact ⟨by rw [pk_un (by decide), p0 0 (by decide), ln 1 (by decide)]; exact c0, by rw [pk_un (by decide), p0 1 (by decide), ln 2 (by decide)]; exact c1, by rw [pk_un (by decide), p0 2 (by decide)]; exact c2, by rw [li]; exact pk_us, by rw [pk_un (by decide), p0 4 (by decide), ln 7 (by decide)]; exact c4, by rw [pk_un (by decide), p0 5 (by decide), ln 10 (by decide)]; exact c5, by rw [pk_un (by decide), p0 6 (by decide), ln 5 (by decide)]; exact c6, by rw [pk_un (by decide), p0 7 (by decide), ln 12 (by decide)]; exact c7, by rw [pk_un (by decide), p0 8 (by decide)]; exact c8⟩
    · exact ⟨by rw [pk_un (by decide), p0 0 (by decide), ln 1 (by decide)]; exact c0, by rw [pk_un (by decide), p0 1 (by decide), ln 2 (by decide)]; exact c1, by rw [pk_un (by decide), p0 2 (by decide)]; exact c2, by rw [pk_un (by decide), p0 3 (by decide), ln 6 (by decide)]; exact c3, by rw [li]; exact pk_us, by rw [pk_un (by decide), p0 5 (by decide), ln 10 (by decide)]; exact c5, by rw [pk_un (by decide), p0 6 (by decide), ln 5 (by decide)]; exact c6, by rw [pk_un (by decide), p0 7 (by decide), ln 12 (by decide)]; exact c7, by rw [pk_un (by decide), p0 8 (by decide)]; exact c8⟩
    · exact ⟨by rw [pk_un (by decide), p0 0 (by decide), ln 1 (by decide)]; exact c0, by rw [pk_un (by decide), p0 1 (by decide), ln 2 (by decide)]; exact c1, by rw [pk_un (by decide), p0 2 (by decide)]; exact c2, by rw [pk_un (by decide), p0 3 (by decide), ln 6 (by decide)]; exact c3, by rw [pk_un (by decide), p0 4 (by decide), ln 7 (by decide)]; exact c4, by rw [pk_un (by decide), p0 5 (by decide), ln 10 (by decide)]; exact c5, by rw [li]; exact pk_us, by rw [pk_un (by decide), p0 7 (by decide), ln 12 (by decide)]; exact c7, by rw [pk_un (by decide), p0 8 (by decide)]; exact c8⟩
    · exact ⟨by rw [pk_un (by decide), p0 0 (by decide), ln 1 (by decide)]; exact c0, by rw [pk_un (by decide), p0 1 (by decide), ln 2 (by decide)]; exact c1, by rw [pk_un (by decide), p0 2 (by decide)]; exact c2, by rw [pk_un (by decide), p0 3 (by decide), ln 6 (by decide)]; exact c3, by rw [pk_un (by decide), p0 4 (by decide), ln 7 (by decide)]; exact c4, by rw [pk_un (by decide), p0 5 (by decide), ln 10 (by decide)]; exact c5, by rw [pk_un (by decide), p0 6 (by decide), ln 5 (by decide)]; exact c6, by rw [li]; exact pk_us, by rw [pk_un (by decide), p0 8 (by decide)]; exact c8⟩
  · have hl' : l < rc k := by
      by_cases e : k = i
      · subst e; rw [li] at hl; omega
      · rw [ln k e] at hl; exact Nat.lt_of_lt_of_le hl (hL k hk')
    rw [pk_un (by have := tix_in k hk' l hl'; omega)]
    exact p1 k hk' l hl
  · rw [pk_un (by omega)]
    exact p2 c hc w hw
  · exact (p3 u hu).up (by omega)
