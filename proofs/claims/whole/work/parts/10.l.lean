/-! the tape: one ring is laid -/
def lyP (ts : List Int32) (t : Int32) : Nat → Nat
  | 0 => 0
  | p + 1 => if ts.getD p 0 ≤ t then p + 1 else lyP ts t p
theorem lyP_le (ts : List Int32) (t : Int32) : ∀ p, lyP ts t p ≤ p
  | 0 => Nat.le_refl 0
  | p + 1 => by
    unfold lyP
    by_cases h : ts.getD p 0 ≤ t
    · rw [if_pos h]; exact Nat.le_refl _
    · rw [if_neg h]; have := lyP_le ts t p; omega
def inL (xs : List Int32) (p : Nat) (v : Int32) : List Int32 := xs.take p ++ v :: xs.drop p
theorem inL_len {xs : List Int32} {p : Nat} {v : Int32} (hp : p ≤ xs.length) : (inL xs p v).length = xs.length + 1 := by
  simp [inL]; omega
def tpF (t : Nat) : List Value := [.ref (t + 1), .ref (t + 3), .ref (t + 5), .ref (t + 7), .ref (t + 9), .ref (t + 11), .ref (t + 13)]
/-- the tape's rings, times, heights -/
def Tp (M : Mm) (t : Nat) (rs ts hs : List Int32) : Prop := M[t]? = some (.inr (7, tpF t)) ∧ Rw M (t + 1) 96 rs ∧ Rw M (t + 3) 96 ts ∧ Rw M (t + 5) 96 hs ∧ ts.length = rs.length ∧ hs.length = rs.length
theorem C_layJ {N : Nat} {M : Mm} {t : Nat} {rs ts hs : List Int32} (h : Tp M t rs ts hs) (hl : rs.length < 96) {p : Nat} (hp : p ≤ rs.length) (r x y : Int32) : ∃ M', jX7_layRing_35 N M t r x y (nI p) = some M' ∧ Tp M' t (inL rs p r) (inL ts p x) (inL hs p y) ∧ Of (fun k => t + 1 ≤ k ∧ k < t + 7) M M' := by
  obtain ⟨h0, h1, h2, h3, l2, l3⟩ := h
  obtain ⟨M1, a1, b1, c1⟩ := R_insert h1 (j := p) (by omega) (by omega) r
  have h2' : Rw M1 (t + 3) 96 ts := h2.of c1 (by omega) (by omega)
  obtain ⟨M2, a2, b2, c2⟩ := R_insert h2' (j := p) (by omega) (by omega) x
  have h3' : Rw M2 (t + 5) 96 hs := (h3.of c1 (by omega) (by omega)).of c2 (by omega) (by omega)
  obtain ⟨M3, a3, b3, c3⟩ := R_insert h3' (j := p) (by omega) (by omega) y
  have m1 : M1[t]? = some (.inr (7, tpF t)) := by rw [c1.2 _ (by omega)]; exact h0
  have m2 : M2[t]? = some (.inr (7, tpF t)) := by rw [c2.2 _ (by omega)]; exact m1
  have m3 : M3[t]? = some (.inr (7, tpF t)) := by rw [c3.2 _ (by omega)]; exact m2
  refine ⟨M3, ?_, ⟨m3, (b1.of c2 (by omega) (by omega)).of c3 (by omega) (by omega), b2.of c3 (by omega) (by omega), b3, ?_, ?_⟩, ((c1.mono (fun k q => by omega)).trans (c2.mono (fun k q => by omega))).trans (c3.mono (fun k q => by omega))⟩
  · have q0 : gQ M 7 t 0 = some (t + 1) := gQ_ok h0 rfl
    have q1 : gQ M1 7 t 1 = some (t + 3) := gQ_ok m1 rfl
    have q2 : gQ M2 7 t 2 = some (t + 5) := gQ_ok m2 rfl
    simp only [jX7_layRing_35, q0, a1, q1, a2, q2, a3, Option.bind_some]
  · rw [inL_len (by omega), inL_len (by omega), l2]
  · rw [inL_len (by omega), inL_len (by omega), l3]
theorem C_layL {N : Nat} {M : Mm} {t : Nat} {rs ts hs : List Int32} (h : Tp M t rs ts hs) (hl : rs.length < 96) (r x y : Int32) : ∀ (p f : Nat), p ≤ rs.length → p < f → ∃ M', LX7_layRing_9 N f M t r x y (nI p) = some M' ∧ Tp M' t (inL rs (lyP ts x p) r) (inL ts (lyP ts x p) x) (inL hs (lyP ts x p) y) ∧ Of (fun k => t + 1 ≤ k ∧ k < t + 7) M M' := by
  intro p
  induction p with
  | zero =>
    intro f hp hf
    obtain ⟨f, rfl⟩ : ∃ g, f = g + 1 := ⟨f - 1, by omega⟩
    obtain ⟨M', e⟩ := C_layJ (N := N) h hl (p := 0) hp r x y
    refine ⟨M', ?_, e.2⟩
    show BX7_layRing_9 N (LX7_layRing_9 N f) M t r x y (nI 0) = some M'
    unfold BX7_layRing_9
    rw [if_pos (by decide)]
    exact e.1
  | succ p ih =>
    intro f hp hf
    obtain ⟨f, rfl⟩ : ∃ g, f = g + 1 := ⟨f - 1, by omega⟩
    have q1 : gQ M 7 t 1 = some (t + 3) := gQ_ok h.1 rfl
    have ep : nI (p + 1) - 1 = nI p := pk_sub (a := p + 1) (b := 1) (by omega)
    have em : nI (p + 1) + -1 = nI p := by rw [← ep]; exact (Int32.sub_eq_add_neg _ _).symm
    have eB : LX7_layRing_9 N (f + 1) M t r x y (nI (p + 1)) = if ts.getD p 0 ≤ x then jX7_layRing_35 N M t r x y (nI (p + 1)) else LX7_layRing_9 N f M t r x y (nI p) := by
      show BX7_layRing_9 N (LX7_layRing_9 N f) M t r x y (nI (p + 1)) = _
      unfold BX7_layRing_9
      rw [if_neg (nI_nle (by omega) (by omega)), ep, em]
      simp only [q1, R_at h.2.2.1, lg_nI (show p < 2 ^ 31 by omega), Option.bind_some]
    rw [eB]
    unfold lyP
    by_cases z : ts.getD p 0 ≤ x
    · rw [if_pos z, if_pos z]
      exact C_layJ h hl hp r x y
    · rw [if_neg z, if_neg z]
      exact ih f (by omega) (by omega)
theorem C_layRing {N : Nat} {M : Mm} {t : Nat} {rs ts hs : List Int32} (h : Tp M t rs ts hs) (hN : 2000 ≤ N) (hl : rs.length < 96) (r x y : Int32) : ∃ M', fX7_layRing N M t r x y = some M' ∧ Tp M' t (inL rs (lyP ts x rs.length) r) (inL ts (lyP ts x rs.length) x) (inL hs (lyP ts x rs.length) y) ∧ Of (fun k => t + 1 ≤ k ∧ k < t + 7) M M' := by
  obtain ⟨M', e1, e2⟩ := C_layL (N := N) h hl r x y rs.length N (Nat.le_refl _) (by omega)
  refine ⟨M', ?_, e2⟩
  have q1 : gQ M 7 t 1 = some (t + 3) := gQ_ok h.1 rfl
  simp only [fX7_layRing, gC_ok h.1, q1, R_size h.2.2.1, Option.bind_some, h.2.2.2.2.1]
  exact e1
