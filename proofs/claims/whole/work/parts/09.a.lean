/-! ===== what holds of every state; how the reference's arrays hold it ===== -/
def rlo (i : Nat) : Int32 := [-999, 0, 0, 0, 1, 0, 0, 0, 0, 0, 1, 1].getD i 0
def rhi (i : Nat) : Int32 := [999, 2, 5, 9999, 999, 255, 999, 9999, 99, 99, 999, 9999].getD i 0
/-- how deep the stack is behind a text's steps -/
def dp : List Int32 → Nat → Option Nat
  | [], d => some d
  | c :: cs, d => if -4 ≤ c then dp cs (d + 1) else if c = -33 then (if 1 ≤ d then dp cs d else none) else (if 2 ≤ d then dp cs (d - 1) else none)
def tok (u : Nat) (c : Int32) : Prop := wi c 0 9999 ∨ (c = -1 ∨ c = -2) ∨ (u < 3 ∧ (c = -3 ∨ c = -4)) ∨ c ∈ ([-33, -124, -38, -60, -61, -62, -43, -45, -42, -47, -37] : List Int32)
def okT (u : Nat) (code : List Int32) : Prop := code.length ≤ 50 ∧ dp code 0 = some 1 ∧ ∀ c ∈ code, tok u c
def okP (n : Nat) (x : Int32) : Prop := ∃ a b : Nat, a < n ∧ b < n ∧ a ≠ b ∧ x = nI (10 * a + b)
def okC (n c : Nat) (l : List Int32) : Prop := l.length = 6 ∧ l.getD 0 0 = nI c ∧ wi (l.getD 1 0) 0 7 ∧ okP n (l.getD 2 0) ∧ wi (l.getD 3 0) 0 999 ∧ wi (l.getD 4 0) 0 50 ∧ wi (l.getD 5 0) 1 999
def Iv (S : St) : Prop :=
  (∀ i, i < 12 → ∀ x ∈ sr S i, wi x (rlo i) (rhi i)) ∧ (∀ x ∈ sr S 2, x < nI (sr S 1).length) ∧ ((sr S 0).length = 3 ∧ (sr S 8).length = 6 ∧ (sr S 9).length = 8) ∧ ((sr S 3).length = (sr S 2).length ∧ (sr S 4).length = (sr S 2).length ∧ (sr S 11).length = (sr S 10).length) ∧ (∀ i, i < 13 → (sr S i).length ≤ rc i) ∧
  (∀ u code, u < 9 → sx S u = some code → okT u code) ∧ (sk S).length ≤ 12 ∧ ∀ c, c < (sk S).length → okC (sr S 1).length c ((sk S).getD c [])
def tb (i : Nat) : Nat := [9, 12, 18, 19, 20, 412, 366, 372, 398, 404, 382, 383, 462].getD i 0
def ts (i : Nat) : Nat := [1, 1, 3, 3, 3, 1, 1, 1, 1, 1, 2, 2, 1].getD i 0
def tix (i j : Nat) : Nat := tb i + ts i * j
def tn (i : Nat) : Nat := [9, 0, 1, 1, 1, 6, 3, 4, 9, 9, 5, 5, 7].getD i 0
def tow (k : Nat) : Nat × Nat := ((List.range 13).flatMap fun i => (List.range (rc i)).map fun j => (tix i j, i, j)).foldr (fun q r => if q.1 = k then q.2 else r) (99, 0)
theorem tow_ok : ∀ i, i < 13 → ∀ j, j < rc i → tow (tix i j) = (i, j) := by decide +kernel
theorem tix_inj {i j i' j' : Nat} (hi : i < 13) (hj : j < rc i) (hi' : i' < 13) (hj' : j' < rc i') (h : tix i j = tix i' j') : i = i' ∧ j = j' := by
  have h1 := tow_ok i hi j hj
  rw [h, tow_ok i' hi' j' hj'] at h1
  exact ⟨(congrArg Prod.fst h1).symm, (congrArg Prod.snd h1).symm⟩
theorem tix_in : ∀ i, i < 13 → ∀ j, j < rc i → 9 ≤ tix i j ∧ tix i j < 482 ∧ ¬ (306 ≤ tix i j ∧ tix i j < 366) := by decide +kernel
def tw (c : Int32) : Int32 := if -1 < c then c else if -5 < c then 9999 - c else 20000 - c
def TwT (f : Nat → Int32) (u : Nat) (t : Option (List Int32)) : Prop := match t with
  | none => f (482 + 52 * u) = 0
  | some code => f (482 + 52 * u) = 1 ∧ f (483 + 52 * u) = nI code.length ∧ ∀ k, k < code.length → f (484 + 52 * u + k) = tw (code.getD k 0)
def TwS (f : Nat → Int32) (S : St) : Prop :=
  (f 0 = nI (sr S 1).length ∧ f 1 = nI (sr S 2).length ∧ f 2 = nI (sk S).length ∧ f 3 = nI (sr S 6).length ∧ f 4 = nI (sr S 7).length ∧ f 5 = nI (sr S 10).length ∧ f 6 = nI (sr S 5).length ∧ f 7 = nI (sr S 12).length ∧ f 8 = sz S) ∧
  (∀ i, i < 13 → ∀ j, j < (sr S i).length → f (tix i j) = (sr S i).getD j 0) ∧
  (∀ c, c < (sk S).length → ∀ w, w < 5 → f (306 + 5 * c + w) = ((sk S).getD c []).getD (w + 1) 0) ∧
  ∀ u, u < 9 → TwT f u (sx S u)
def TwR (F : Nat → Int32) (A : Nat → Nat → Int32) (σ : Sg) : Prop :=
  TwS (A 0) (g0 σ) ∧ (gi σ ≠ 0 → TwS (A 1) (g1 σ)) ∧ F 2 = gi σ ∧ (∀ i, i < 6 → A 2 i = (ge σ).getD i 0) ∧
  (∀ i, i < 4 → A 5 i = (gs σ i).1 ∧ A 6 i = nI (gs σ i).2.length ∧ ∀ k, k < (gs σ i).2.length → A 7 (40 * i + k) = (gs σ i).2.getD k 0) ∧
  F 21 = nI (gt σ).length ∧ ∀ k, k < (gt σ).length → A 14 k = (gt σ).getD k 0
def RelT (M : Mm) (σ : Sg) : Prop := ∃ F A, TwAt M F A ∧ TwR F A σ
theorem RelT.mv {M M' : Mm} {σ : Sg} (h : RelT M σ) (g : FrC M M') : RelT M' σ := by
  obtain ⟨F, A, h1, h2⟩ := h
  exact ⟨F, A, h1.mv g, h2⟩
/-- what holds of a whole state -/
def Ig (σ : Sg) : Prop := Iv (g0 σ) ∧ Iv (g1 σ) ∧ (ge σ).length = 6 ∧ (∀ i, i < 4 → (gs σ i).2.length ≤ 40 ∧ ((gs σ i).1 = 0 → (gs σ i).2 = []) ∧ ((gs σ i).1 = 0 ∨ (gs σ i).1 = 8 ∨ (gs σ i).1 = 16 ∨ (gs σ i).1 = 32)) ∧ (gt σ).length ≤ 40
abbrev An : Type := Int32 × Sg
def er (σ : Sg) (k : Nat) : An := (-1000000 - nI k, erS σ k)
/-- the class does what is said -/
def DoC (M : Mm) (r : Option (Int32 × Mm)) (a : An) : Prop := ∃ M', r = some (a.1, M') ∧ RelC M' a.2 ∧ FrC M M'
def DoT (M : Mm) (r : Option (Int32 × Mm)) (a : An) : Prop := ∃ M', r = some (a.1, M') ∧ RelT M' a.2 ∧ FrT M M'
theorem DoC.er {M : Mm} {σ : Sg} (h : RelC M σ) {a : Int32} (k : Nat) (ha : a = nI k) (hk : k < 6) : DoC M (bd2 (fX10_error M 0 a) fun v2 M3 => some (v2, M3)) (er σ k) := by
  obtain ⟨M', e1, e2, e3⟩ := C_error h k ha hk
  subst ha
  exact ⟨M', by rw [e1]; rfl, e2, e3⟩
theorem T_in (M : Mm) {x a b : Int32} {a' b' : Int64} (ha : a' = a.toInt64) (hb : b' = b.toInt64) : fX11_in M x.toInt64 a' b' = some (if wi x a b then 1 else 0) := by
  subst ha
  subst hb
  unfold fX11_in
  have e1 : lg_cmp x.toInt64 a.toInt64 < 0 ↔ x < a := by
    rw [lg_cmp_lt, Int64.lt_iff_toInt_lt, Int32.toInt_toInt64, Int32.toInt_toInt64, Int32.lt_iff_toInt_lt]
  have e2 : 0 < lg_cmp x.toInt64 b.toInt64 ↔ b < x := by
    rw [lg_cmp_gt, Int64.lt_iff_toInt_lt, Int32.toInt_toInt64, Int32.toInt_toInt64, Int32.lt_iff_toInt_lt]
  by_cases h1 : x < a
  · rw [if_pos (e1.mpr h1), if_neg (fun q => q.1 h1)]
  · rw [if_neg (fun q => h1 (e1.mp q))]
    by_cases h2 : b < x
    · rw [if_pos (e2.mpr h2), if_neg (fun q => q.2 h2)]
    · rw [if_neg (fun q => h2 (e2.mp q)), if_pos ⟨h1, h2⟩]
theorem T_yes (M : Mm) {x a b : Int32} {a' b' : Int64} (ha : a' = a.toInt64) (hb : b' = b.toInt64) (h : wi x a b) : fX11_in M x.toInt64 a' b' = some 1 := by rw [T_in M ha hb, if_pos h]
theorem T_no (M : Mm) {x a b : Int32} {a' b' : Int64} (ha : a' = a.toInt64) (hb : b' = b.toInt64) (h : ¬ wi x a b) : fX11_in M x.toInt64 a' b' = some 0 := by rw [T_in M ha hb, if_neg h]
theorem T_error {M : Mm} {σ : Sg} (h : RelT M σ) (hg : (ge σ).length = 6) {a : Int32} (k : Nat) (ha : a = nI k) (hk : k < 6) : ∃ M', fX11_error M 137 a = some (-1000000 - a, M') ∧ RelT M' (erS σ k) ∧ FrT M M' := by
  subst ha
  obtain ⟨F, A, h1, q0, q1, q2, q3, q4⟩ := h
  obtain ⟨M', e1, e2, e3⟩ := T_put h1 2 (by decide) (j := k) hk (A 2 k + 1)
  refine ⟨M', ?_, ⟨F, _, e2, q0, q1, q2, fun i hi => ?_, q4⟩, e3⟩
  · simp only [fX11_error, T_c h1, T_ref h1 (k := 3) (x := 140) rfl, Option.bind_some]
    rw [show aI M 0 140 (nI k) = some (A 2 k) from T_get h1 2 (by decide) hk]
    simp only [Option.bind_some]
    rw [show sI M 0 140 (nI k) (A 2 k + 1) = some M' from e1]
    rfl
  · show (if (2 : Nat) = 2 then upd (A 2) k (A 2 k + 1) else A 2) i = ((ge σ).set k ((ge σ).getD k 0 + 1)).getD i 0
    rw [if_pos rfl]
    by_cases e : i = k
    · subst e
      rw [pk_us, q3 i hi]
      simp [List.getD_eq_getElem?_getD, hg, hi]
    · rw [pk_un e, q3 i hi]
      simp [List.getD_eq_getElem?_getD, List.getElem?_set_ne (Ne.symm e)]
theorem DoT.er {M : Mm} {σ : Sg} (h : RelT M σ) (hg : (ge σ).length = 6) {a : Int32} (k : Nat) (ha : a = nI k) (hk : k < 6) : DoT M (bd2 (fX11_error M 137 a) fun v2 M3 => some (v2, M3)) (er σ k) := by
  obtain ⟨M', e1, e2, e3⟩ := T_error h hg k ha hk
  subst ha
  exact ⟨M', by rw [e1]; rfl, e2, e3⟩
theorem Ig.er {σ : Sg} (h : Ig σ) (k : Nat) : Ig (erS σ k) := ⟨h.1, h.2.1, by simpa [erS, ge] using h.2.2.1, h.2.2.2⟩
