/-! ===== PURE: what a state is, and how the class's cells hold it ===== -/
/-- rows by numbers (0 clocks, 1 bars, 2 ringBars, 3 ringTenths, 4 ringHeights, 5 strip, 6 lines, 7 lets, 8 weights, 9 years, 10 senses, 11 spans, 12 waiting), texts, countings (number, kind, ab, line, window, slide), z -/
abbrev St : Type := (Nat → List Int32) × (Nat → Option (List Int32)) × List (List Int32) × Int32
def sr (S : St) : Nat → List Int32 := S.1
def sx (S : St) : Nat → Option (List Int32) := S.2.1
def sk (S : St) : List (List Int32) := S.2.2.1
def sz (S : St) : Int32 := S.2.2.2
def ro (i : Nat) : Nat := [1, 3, 5, 7, 9, 11, 15, 17, 19, 21, 23, 25, 27].getD i 0
def rc (i : Nat) : Nat := [3, 6, 96, 96, 96, 50, 6, 10, 6, 8, 8, 8, 20].getD i 0
theorem ro_lt : ∀ i, i < 13 → 1 ≤ ro i ∧ ro i ≤ 27 ∧ ro i ≠ 13 ∧ ro i ≠ 14 ∧ ro i ≠ 12 := by decide
theorem ro_inj : ∀ i, i < 13 → ∀ j, j < 13 → i ≠ j → ro i ≠ ro j ∧ ro i + 1 ≠ ro j ∧ ro i ≠ ro j + 1 := by decide
def soF (b n : Nat) (z : Int32) : List Value := [.ref (b + 1), .ref (b + 3), .ref (b + 5), .ref (b + 7), .ref (b + 9), .ref (b + 11), .ref (b + 13), .ref (b + 14), .int (nI n), .ref (b + 15), .ref (b + 17), .ref (b + 19), .ref (b + 21), .ref (b + 23), .ref (b + 25), .ref (b + 27), .int z]
def TextAt (M : Mm) (q : Nat) (code : List Int32) : Prop := 153 ≤ q ∧ M[q]? = some (.inr (8, [.ref (q + 1), .ref (q + 3)])) ∧ Rw M (q + 1) code.length code ∧ ∃ ys, Rw M (q + 3) code.length ys
def CntAt (M : Mm) (q : Nat) (l : List Int32) : Prop := 153 ≤ q ∧ l.length = 6 ∧ M[q]? = some (.inr (0, l.map Value.int))
def TxO (M : Mm) (o : Option Nat) (t : Option (List Int32)) : Prop := match t with
  | none => o = none
  | some code => ∃ q, o = some q ∧ TextAt M q code
def NowAt (M : Mm) (b : Nat) (S : St) : Prop :=
  M[b]? = some (.inr (6, soF b (sk S).length (sz S))) ∧ (∀ i, i < 13 → Rw M (b + ro i) (rc i) (sr S i)) ∧
  (∃ g : Nat → Option Nat, M[b + 13]? = some (.inl (2, 9, .inr (.inr (.inr (.inr g))))) ∧ ∀ u, u < 9 → TxO M (g u) (sx S u)) ∧
  ∃ g : Nat → Option Nat, M[b + 14]? = some (.inl (3, 12, .inr (.inr (.inr (.inr g))))) ∧ ((sk S).length ≤ 12 ∧ ∀ c, (sk S).length ≤ c → g c = none) ∧ ∀ c, c < (sk S).length → ∃ q, g c = some q ∧ CntAt M q ((sk S).getD c [])
def Rx (M : Mm) (a cap : Nat) : Prop := ∃ xs, Rw M a cap xs
def TapeAt (M : Mm) (t : Nat) : Prop := M[t]? = some (.inr (7, [.ref (t + 1), .ref (t + 3), .ref (t + 5), .ref (t + 7), .ref (t + 9), .ref (t + 11), .ref (t + 13)])) ∧ Rx M (t + 1) 96 ∧ Rx M (t + 3) 96 ∧ Rx M (t + 5) 96 ∧ Rx M (t + 7) 96 ∧ Rx M (t + 9) 96 ∧ Rx M (t + 11) 96 ∧ Rx M (t + 13) 12
def Scr (M : Mm) : Prop := (M[74]? = some (.inr (1, [.ref 75, .ref 90, .ref 105, .ref 107])) ∧ TapeAt M 75 ∧ TapeAt M 90 ∧ Rx M 105 96 ∧ Rx M 107 802) ∧ TapeAt M 109 ∧ ((∃ u v, M[124]? = some (.inr (5, [.ref 125, .ref 127, .int u, .int v]))) ∧ Rx M 125 41 ∧ Rx M 127 41) ∧ (∃ j pl, M[132]? = some (.inr (2, [.ref 133, .ref 135, .float j, .int pl]))) ∧ Rx M 133 50 ∧ Rx M 135 50
def ShAt (M : Mm) (sh : Nat → Int32 × List Int32) : Prop := (∃ g : Nat → Option Nat, M[61]? = some (.inl (4, 4, .inr (.inr (.inr (.inr g))))) ∧ ∀ i, i < 4 → g i = some (62 + 3 * i)) ∧ ∀ i, i < 4 → M[62 + 3 * i]? = some (.inr (4, [.ref (63 + 3 * i), .int (sh i).1])) ∧ Rw M (63 + 3 * i) 40 (sh i).2
/-- now, image, how many images, errors, sheets, trace -/
abbrev Sg : Type := St × St × Int32 × List Int32 × (Nat → Int32 × List Int32) × List Int32
def g0 (σ : Sg) : St := σ.1
def g1 (σ : Sg) : St := σ.2.1
def gi (σ : Sg) : Int32 := σ.2.2.1
def ge (σ : Sg) : List Int32 := σ.2.2.2.1
def gs (σ : Sg) : Nat → Int32 × List Int32 := σ.2.2.2.2.1
def gt (σ : Sg) : List Int32 := σ.2.2.2.2.2
def RelC (M : Mm) (σ : Sg) : Prop :=
  M[0]? = some (.inr (10, [.ref 1, .ref 30, .int (gi σ), .ref 59, .ref 61, .ref 74, .ref 109, .ref 124, .ref 129, .ref 132])) ∧ NowAt M 1 (g0 σ) ∧ NowAt M 30 (g1 σ) ∧ ((ge σ).length = 6 ∧ Rw M 59 6 (ge σ)) ∧ ShAt M (gs σ) ∧ (M[129]? = some (.inr (9, [.ref 130])) ∧ Rw M 130 40 (gt σ)) ∧ Scr M ∧ 153 ≤ M.length
/-! what stays when other cells change -/
def Sm (lo hi : Nat) (M M' : Mm) : Prop := ∀ k, lo ≤ k → k < hi → M'[k]? = M[k]?
theorem Sm.rf {lo hi : Nat} {M : Mm} : Sm lo hi M M := fun _ _ _ => rfl
theorem Sm.trans {lo hi : Nat} {M M1 M2 : Mm} (h : Sm lo hi M M1) (g : Sm lo hi M1 M2) : Sm lo hi M M2 := fun k a b => (g k a b).trans (h k a b)
theorem Of.sm {S : Nat → Prop} {M M' : Mm} (h : Of S M M') {lo hi : Nat} (g : ∀ k, lo ≤ k → k < hi → ¬ S k) : Sm lo hi M M' := fun k a b => h.2 k (g k a b)
theorem Sm.sub {lo hi lo' hi' : Nat} {M M' : Mm} (h : Sm lo hi M M') (h1 : lo ≤ lo') (h2 : hi' ≤ hi) : Sm lo' hi' M M' := fun k a b => h k (by omega) (by omega)
theorem Rw.mv {M M' : Mm} {a cap : Nat} {xs : List Int32} (h : Rw M a cap xs) (g : Sm a (a + 2) M M') : Rw M' a cap xs := by
  obtain ⟨q1, q2, q3, f, q4, q5⟩ := h
  exact ⟨q1, q2, by rw [g a (by omega) (by omega)]; exact q3, f, by rw [g _ (by omega) (by omega)]; exact q4, q5⟩
theorem Rx.mv {M M' : Mm} {a cap : Nat} (h : Rx M a cap) (g : Sm a (a + 2) M M') : Rx M' a cap := ⟨h.choose, h.choose_spec.mv g⟩
/-- what was made on the way stays -/
def Dy (M M' : Mm) : Prop := (∀ q code, TextAt M q code → TextAt M' q code) ∧ ∀ q l, CntAt M q l → CntAt M' q l
theorem Dy.rf {M : Mm} : Dy M M := ⟨fun _ _ h => h, fun _ _ h => h⟩
theorem Dy.trans {M M1 M2 : Mm} (h : Dy M M1) (g : Dy M1 M2) : Dy M M2 := ⟨fun q c x => g.1 q c (h.1 q c x), fun q c x => g.2 q c (h.2 q c x)⟩
theorem Dy.of {M M' : Mm} (h : ∀ k x, 153 ≤ k → M[k]? = some x → M'[k]? = some x) : Dy M M' := by
  have hR : ∀ a cap xs, 153 ≤ a → Rw M a cap xs → Rw M' a cap xs := fun a cap xs ha ⟨q1, q2, q3, f, q4, q5⟩ => ⟨q1, q2, h _ _ ha q3, f, h _ _ (by omega) q4, q5⟩
  refine ⟨fun q code ⟨h1, h2, h3, ys, h4⟩ => ⟨h1, h _ _ h1 h2, hR _ _ _ (by omega) h3, ys, hR _ _ _ (by omega) h4⟩, fun q l ⟨h1, h2, h3⟩ => ⟨h1, h2, h _ _ h1 h3⟩⟩
theorem Of.dy {S : Nat → Prop} {M M' : Mm} (h : Of S M M') (g : ∀ k, S k → k < 153) : Dy M M' := Dy.of fun k x hk hx => by rw [h.2 k (fun q => by have := g k q; omega)]; exact hx
theorem TxO.mv {M M' : Mm} {o : Option Nat} {t : Option (List Int32)} (h : TxO M o t) (g : Dy M M') : TxO M' o t := by
  cases t with
  | none => exact h
  | some code =>
    obtain ⟨q, h1, h2⟩ := h
    exact ⟨q, h1, g.1 _ _ h2⟩
theorem NowAt.mv {M M' : Mm} {b : Nat} {S : St} (h : NowAt M b S) (g : Sm b (b + 29) M M') (d : Dy M M') : NowAt M' b S := by
  obtain ⟨h1, h2, ⟨f, h3, h4⟩, f2, h5, h6, h7⟩ := h
  refine ⟨by rw [g b (by omega) (by omega)]; exact h1, fun i hi => (h2 i hi).mv (g.sub ?_ ?_), ⟨f, by rw [g _ (by omega) (by omega)]; exact h3, fun u hu => (h4 u hu).mv d⟩, f2, by rw [g _ (by omega) (by omega)]; exact h5, h6, fun c hc => ?_⟩
  · have := ro_lt i hi; omega
  · have := ro_lt i hi; omega
  · obtain ⟨q, k1, k2⟩ := h7 c hc
    exact ⟨q, k1, d.2 _ _ k2⟩
theorem TapeAt.mv {M M' : Mm} {t : Nat} (h : TapeAt M t) (g : Sm t (t + 15) M M') : TapeAt M' t := by
  obtain ⟨h0, h1, h2, h3, h4, h5, h6, h7⟩ := h
  exact ⟨by rw [g t (by omega) (by omega)]; exact h0, h1.mv (g.sub (by omega) (by omega)), h2.mv (g.sub (by omega) (by omega)), h3.mv (g.sub (by omega) (by omega)), h4.mv (g.sub (by omega) (by omega)), h5.mv (g.sub (by omega) (by omega)), h6.mv (g.sub (by omega) (by omega)), h7.mv (g.sub (by omega) (by omega))⟩
theorem Scr.mv {M M' : Mm} (h : Scr M) (g : Sm 74 129 M M') (g' : Sm 132 137 M M') : Scr M' := by
  obtain ⟨⟨h1, h2, h3, h4, h5⟩, h6, ⟨⟨u, v, h7⟩, h8, h9⟩, ⟨j, pl, h10⟩, h11, h12⟩ := h
  refine ⟨⟨by rw [g 74 (by omega) (by omega)]; exact h1, h2.mv (g.sub (by omega) (by omega)), h3.mv (g.sub (by omega) (by omega)), h4.mv (g.sub (by omega) (by omega)), h5.mv (g.sub (by omega) (by omega))⟩, h6.mv (g.sub (by omega) (by omega)), ⟨⟨u, v, by rw [g 124 (by omega) (by omega)]; exact h7⟩, h8.mv (g.sub (by omega) (by omega)), h9.mv (g.sub (by omega) (by omega))⟩, ⟨j, pl, by rw [g' 132 (by omega) (by omega)]; exact h10⟩, h11.mv (g'.sub (by omega) (by omega)), h12.mv (g'.sub (by omega) (by omega))⟩
theorem ShAt.mv {M M' : Mm} {sh : Nat → Int32 × List Int32} (h : ShAt M sh) (g : Sm 61 74 M M') : ShAt M' sh := by
  obtain ⟨⟨f, h1, h2⟩, h3⟩ := h
  refine ⟨⟨f, by rw [g 61 (by omega) (by omega)]; exact h1, h2⟩, fun i hi => ⟨by rw [g _ (by omega) (by omega)]; exact (h3 i hi).1, (h3 i hi).2.mv (g.sub (by omega) (by omega))⟩⟩
/-! one region changes -/
theorem RelC.now {M M' : Mm} {σ : Sg} {S : St} (h : RelC M σ) (o : Of (fun k => 1 ≤ k ∧ k < 30) M M') (n : NowAt M' 1 S) : RelC M' (S, σ.2) := by
  obtain ⟨h0, h1, h2, ⟨h3, h4⟩, h5, ⟨h6, h7⟩, h8, h9⟩ := h
  have d : Dy M M' := o.dy (fun k q => by omega)
  exact ⟨by rw [o.2 0 (by omega)]; exact h0, n, h2.mv (o.sm (fun k a b => by omega)) d, ⟨h3, h4.mv (o.sm (fun k a b => by omega))⟩, h5.mv (o.sm (fun k a b => by omega)), ⟨by rw [o.2 129 (by omega)]; exact h6, h7.mv (o.sm (fun k a b => by omega))⟩, h8.mv (o.sm (fun k a b => by omega)) (o.sm (fun k a b => by omega)), by rw [o.1]; exact h9⟩
theorem RelC.err {M M' : Mm} {σ : Sg} {es : List Int32} (h : RelC M σ) (o : Of (fun k => k = 59 ∨ k = 59 + 1) M M') (n : Rw M' 59 6 es) (hl : es.length = 6) : RelC M' (σ.1, σ.2.1, σ.2.2.1, es, σ.2.2.2.2) := by
  obtain ⟨h0, h1, h2, ⟨h3, h4⟩, h5, ⟨h6, h7⟩, h8, h9⟩ := h
  have d : Dy M M' := o.dy (fun k q => by omega)
  exact ⟨by rw [o.2 0 (by omega)]; exact h0, h1.mv (o.sm (fun k a b => by omega)) d, h2.mv (o.sm (fun k a b => by omega)) d, ⟨hl, n⟩, h5.mv (o.sm (fun k a b => by omega)), ⟨by rw [o.2 129 (by omega)]; exact h6, h7.mv (o.sm (fun k a b => by omega))⟩, h8.mv (o.sm (fun k a b => by omega)) (o.sm (fun k a b => by omega)), by rw [o.1]; exact h9⟩
/-- scratch cells change -/
theorem RelC.scr {M M' : Mm} {σ : Sg} (h : RelC M σ) (o1 : Sm 0 74 M M') (o2 : Sm 129 132 M M') (d : Dy M M') (n : Scr M') (hl : 153 ≤ M'.length) : RelC M' σ := by
  obtain ⟨h0, h1, h2, ⟨h3, h4⟩, h5, ⟨h6, h7⟩, h8, h9⟩ := h
  exact ⟨by rw [o1 0 (by omega) (by omega)]; exact h0, h1.mv (o1.sub (by omega) (by omega)) d, h2.mv (o1.sub (by omega) (by omega)) d, ⟨h3, h4.mv (o1.sub (by omega) (by omega))⟩, h5.mv (o1.sub (by omega) (by omega)), ⟨by rw [o2 129 (by omega) (by omega)]; exact h6, h7.mv (o2.sub (by omega) (by omega))⟩, n, hl⟩
/-- a row of a State changes -/
def srow (S : St) (i : Nat) (ys : List Int32) : St := (fun j => if j = i then ys else S.1 j, S.2)
theorem NowAt.row {M M' : Mm} {b i : Nat} {S : St} {ys : List Int32} (h : NowAt M b S) (hi : i < 13) (hb : b = 1 ∨ b = 30) (o : Of (fun k => k = b + ro i ∨ k = b + ro i + 1) M M') (n : Rw M' (b + ro i) (rc i) ys) : NowAt M' b (srow S i ys) := by
  obtain ⟨h1, h2, ⟨f, h3, h4⟩, f2, h5, h6, h7⟩ := h
  have r := ro_lt i hi
  have d : Dy M M' := o.dy (fun k q => by omega)
  refine ⟨by rw [o.2 b (by omega)]; exact h1, fun j hj => ?_, ⟨f, by rw [o.2 _ (by omega)]; exact h3, fun u hu => (h4 u hu).mv d⟩, f2, by rw [o.2 _ (by omega)]; exact h5, h6, fun c hc => ?_⟩
  · by_cases e : j = i
    · subst e
      show Rw M' _ _ (if j = j then ys else _)
      rw [if_pos rfl]
      exact n
    · show Rw M' _ _ (if j = i then ys else _)
      rw [if_neg e]
      have q := ro_inj i hi j hj (fun z => e z.symm)
      exact (h2 j hj).of o (by omega) (by omega)
  · obtain ⟨q, k1, k2⟩ := h7 c hc
    exact ⟨q, k1, d.2 _ _ k2⟩
theorem Of.now {M M' : Mm} {i : Nat} (hi : i < 13) (o : Of (fun k => k = 1 + ro i ∨ k = 1 + ro i + 1) M M') : Of (fun k => 1 ≤ k ∧ k < 30) M M' := o.mono fun k q => by have := ro_lt i hi; omega
/-- the class's acts leave the reference's cells as they are -/
def FrC (M M' : Mm) : Prop := M.length ≤ M'.length ∧ Sm 137 153 M M'
theorem FrC.rf {M : Mm} : FrC M M := ⟨Nat.le_refl _, Sm.rf⟩
theorem FrC.trans {M M1 M2 : Mm} (h : FrC M M1) (g : FrC M1 M2) : FrC M M2 := ⟨Nat.le_trans h.1 g.1, h.2.trans g.2⟩
theorem Of.frC {S : Nat → Prop} {M M' : Mm} (h : Of S M M') (g : ∀ k, S k → k < 137) : FrC M M' := ⟨by rw [h.1]; exact Nat.le_refl _, h.sm fun k a b q => by have := g k q; omega⟩
/-! reading the State's fields -/
section RC
variable {M : Mm} {σ : Sg}
theorem RelC.c (h : RelC M σ) : gC M 10 0 = some 0 := gC_ok h.1
theorem RelC.q0 (h : RelC M σ) : gQ M 10 0 0 = some 1 := gQ_ok h.1 rfl
theorem RelC.q1 (h : RelC M σ) : gQ M 10 0 1 = some 30 := gQ_ok h.1 rfl
theorem RelC.i2 (h : RelC M σ) : gI M 10 0 2 = some (gi σ) := gI_ok h.1 rfl
theorem RelC.q3 (h : RelC M σ) : gQ M 10 0 3 = some 59 := gQ_ok h.1 rfl
theorem RelC.q4 (h : RelC M σ) : gQ M 10 0 4 = some 61 := gQ_ok h.1 rfl
theorem RelC.q5 (h : RelC M σ) : gQ M 10 0 5 = some 74 := gQ_ok h.1 rfl
theorem RelC.q6 (h : RelC M σ) : gQ M 10 0 6 = some 109 := gQ_ok h.1 rfl
theorem RelC.q7 (h : RelC M σ) : gQ M 10 0 7 = some 124 := gQ_ok h.1 rfl
theorem RelC.q8 (h : RelC M σ) : gQ M 10 0 8 = some 129 := gQ_ok h.1 rfl
theorem RelC.q9 (h : RelC M σ) : gQ M 10 0 9 = some 132 := gQ_ok h.1 rfl
/-- the field of the State that holds row i -/
def rf (i : Nat) : Nat := [0, 1, 2, 3, 4, 5, 9, 10, 11, 12, 13, 14, 15].getD i 0
theorem NowAt.c {b : Nat} {S : St} (h : NowAt M b S) : gC M 6 b = some b := gC_ok h.1
theorem soF_rf : ∀ i, i < 13 → ∀ b n z, (soF b n z)[rf i]? = some (.ref (b + ro i)) := by
  intro i hi b n z
  match i, hi with
  | 0, _ => rfl
  | 1, _ => rfl
  | 2, _ => rfl
  | 3, _ => rfl
  | 4, _ => rfl
  | 5, _ => rfl
  | 6, _ => rfl
  | 7, _ => rfl
  | 8, _ => rfl
  | 9, _ => rfl
  | 10, _ => rfl
  | 11, _ => rfl
  | 12, _ => rfl
theorem NowAt.q {b : Nat} {S : St} (h : NowAt M b S) (i : Nat) (hi : i < 13) : gQ M 6 b (rf i) = some (b + ro i) := gQ_ok h.1 (soF_rf i hi _ _ _)
theorem NowAt.n {b : Nat} {S : St} (h : NowAt M b S) : gI M 6 b 8 = some (nI (sk S).length) := gI_ok h.1 rfl
theorem NowAt.z {b : Nat} {S : St} (h : NowAt M b S) : gI M 6 b 16 = some (sz S) := gI_ok h.1 rfl
end RC
/-! within -/
abbrev wi (x a b : Int32) : Prop := ¬ x < a ∧ ¬ b < x
theorem C_within (M : Mm) (x a b : Int32) : fX10_within M x a b = some (if ¬ x < a ∧ ¬ b < x then 1 else 0) := by
  unfold fX10_within
  by_cases h1 : x < a
  · rw [if_pos h1, if_neg (fun q => q.1 h1)]
  · rw [if_neg h1]
    by_cases h2 : b < x
    · rw [if_pos h2, if_neg (fun q => q.2 h2)]
    · rw [if_neg h2, if_pos ⟨h1, h2⟩]
theorem C_in {M : Mm} {x a b : Int32} (h : wi x a b) : fX10_within M x a b = some 1 := by rw [C_within, if_pos h]
theorem C_out {M : Mm} {x a b : Int32} (h : ¬ wi x a b) : fX10_within M x a b = some 0 := by rw [C_within, if_neg h]
/-- one more error k -/
def erS (σ : Sg) (k : Nat) : Sg := (σ.1, σ.2.1, σ.2.2.1, (ge σ).set k ((ge σ).getD k 0 + 1), σ.2.2.2.2)
theorem C_error {M : Mm} {σ : Sg} (h : RelC M σ) {a : Int32} (k : Nat) (ha : a = nI k) (hk : k < 6) : ∃ M', fX10_error M 0 a = some (-1000000 - a, M') ∧ RelC M' (erS σ k) ∧ FrC M M' := by
  subst ha
  obtain ⟨l6, hr⟩ := h.2.2.2.1
  obtain ⟨M', e1, e2, e3⟩ := R_raise hr (j := k) (by omega) 1
  refine ⟨M', ?_, h.err e3 e2 (by simpa using l6), e3.frC (fun q z => by omega)⟩
  simp only [fX10_error, h.c, h.q3, Option.bind_some, e1]
theorem RelC.of {M M' : Mm} {σ : Sg} (h : RelC M σ) (o : Of (fun k => 137 ≤ k ∧ k < 153) M M') : RelC M' σ := by
  obtain ⟨h0, h1, h2, ⟨h3, h4⟩, h5, ⟨h6, h7⟩, h8, h9⟩ := h
  have d : Dy M M' := o.dy (fun k q => by omega)
  exact ⟨by rw [o.2 0 (by omega)]; exact h0, h1.mv (o.sm (fun k a b => by omega)) d, h2.mv (o.sm (fun k a b => by omega)) d, ⟨h3, h4.mv (o.sm (fun k a b => by omega))⟩, h5.mv (o.sm (fun k a b => by omega)), ⟨by rw [o.2 129 (by omega)]; exact h6, h7.mv (o.sm (fun k a b => by omega))⟩, h8.mv (o.sm (fun k a b => by omega)) (o.sm (fun k a b => by omega)), by rw [o.1]; exact h9⟩
/-! ===== the reference's cells: numbers F by fields, arrays A ===== -/
def tl (i : Nat) : Nat := [950, 950, 6, 96, 96, 4, 4, 160, 50, 4, 50, 41, 246, 12, 40].getD i 0
def tt (i : Nat) : Nat := if i = 4 then 1 else 0
def twF (F : Nat → Int32) : List Value := [.ref 138, .ref 139, .int (F 2), .ref 140, .ref 141, .ref 142, .ref 143, .ref 144, .ref 145, .ref 146, .int (F 10), .int (F 11), .int (F 12), .int (F 13), .int (F 14), .ref 147, .ref 148, .ref 149, .ref 150, .ref 151, .ref 152, .int (F 21), .int (F 22), .int (F 23), .int (F 24)]
def TwAt (M : Mm) (F : Nat → Int32) (A : Nat → Nat → Int32) : Prop := M[137]? = some (.inr (11, twF F)) ∧ ∀ i, i < 15 → M[138 + i]? = some (.inl (tt i, tl i, .inl (A i)))
abbrev FrT (M M' : Mm) : Prop := Of (fun k => 137 ≤ k ∧ k < 153) M M'
theorem TwAt.mv {M M' : Mm} {F : Nat → Int32} {A : Nat → Nat → Int32} (h : TwAt M F A) (g : FrC M M') : TwAt M' F A := ⟨by rw [g.2 137 (by omega) (by omega)]; exact h.1, fun i hi => by rw [g.2 _ (by omega) (by omega)]; exact h.2 i hi⟩
def u2 (A : Nat → Nat → Int32) (i j : Nat) (x : Int32) : Nat → Nat → Int32 := fun k => if k = i then upd (A i) j x else A k
def u1 (F : Nat → Int32) (k : Nat) (x : Int32) : Nat → Int32 := upd F k x
theorem tl_lt : ∀ i, i < 15 → tl i < 2 ^ 31 := by decide
theorem T_get {M : Mm} {F : Nat → Int32} {A : Nat → Nat → Int32} (h : TwAt M F A) (i : Nat) (hi : i < 15) {j : Nat} (hj : j < tl i) : aI M (tt i) (138 + i) (nI j) = some (A i j) := aI_ok (h.2 i hi) hj (tl_lt i hi)
theorem T_put {M : Mm} {F : Nat → Int32} {A : Nat → Nat → Int32} (h : TwAt M F A) (i : Nat) (hi : i < 15) {j : Nat} (hj : j < tl i) (x : Int32) : ∃ M', sI M (tt i) (138 + i) (nI j) x = some M' ∧ TwAt M' F (u2 A i j x) ∧ FrT M M' := by
  refine ⟨_, sI_ok (h.2 i hi) hj (tl_lt i hi), ⟨?_, fun k hk => ?_⟩, Of.set (by omega)⟩
  · rw [List.getElem?_set_ne (by omega)]; exact h.1
  · by_cases e : k = i
    · subst e
      have := lt_of_at (h.2 k hk)
      simp [this, u2]
    · rw [List.getElem?_set_ne (by omega), h.2 k hk]
      simp [u2, e]
theorem T_c {M : Mm} {F : Nat → Int32} {A : Nat → Nat → Int32} (h : TwAt M F A) : gC M 11 137 = some 137 := gC_ok h.1
theorem T_int {M : Mm} {F : Nat → Int32} {A : Nat → Nat → Int32} (h : TwAt M F A) {k : Nat} {x : Int32} (hk : (twF F)[k]? = some (.int x)) : gI M 11 137 k = some x := gI_ok h.1 hk
theorem T_ref {M : Mm} {F : Nat → Int32} {A : Nat → Nat → Int32} (h : TwAt M F A) {k x : Nat} (hk : (twF F)[k]? = some (.ref x)) : gQ M 11 137 k = some x := gQ_ok h.1 hk
theorem T_set {M : Mm} {F : Nat → Int32} {A : Nat → Nat → Int32} (h : TwAt M F A) {k : Nat} (x : Int32) (hk : (twF F).set k (.int x) = twF (u1 F k x)) (hl : k < 25) : ∃ M', pF M 11 137 k (.int x) = some M' ∧ TwAt M' (u1 F k x) A ∧ FrT M M' := by
  refine ⟨_, pF_ok h.1 hl, ⟨?_, fun i hi => ?_⟩, Of.set (by omega)⟩
  · have := lt_of_at h.1
    rw [hk]
    simp [this]
  · rw [List.getElem?_set_ne (by omega)]; exact h.2 i hi
