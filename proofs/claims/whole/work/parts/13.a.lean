/-! the start: the memory behind both constructors -/
def obB (M : Mm) (a ci : Nat) (fs : List Value) : Bool := match M[a]? with
  | some (.inr (c, gs)) => decide (c = ci) && decide (gs = fs)
  | _ => false
theorem obB_ok {M : Mm} {a ci : Nat} {fs : List Value} (h : obB M a ci fs = true) : M[a]? = some (.inr (ci, fs)) := by
  unfold obB at h
  split at h
  · next c gs e =>
    obtain ⟨h1, h2⟩ := Bool.and_eq_true_iff.mp h
    rw [e, of_decide_eq_true h1, of_decide_eq_true h2]
  · cases h
def exA (M : Mm) (a : Nat) : Nat → Int32 := match M[a]? with
  | some (.inl (_, _, .inl f)) => f
  | _ => fun _ => 0
def arB (M : Mm) (a t n : Nat) (p : (Nat → Int32) → Bool) : Bool := match M[a]? with
  | some (.inl (t0, n0, .inl f)) => (decide (t0 = t) && decide (n0 = n)) && p f
  | _ => false
theorem arB_ok {M : Mm} {a t n : Nat} {p : (Nat → Int32) → Bool} (h : arB M a t n p = true) : M[a]? = some (.inl (t, n, .inl (exA M a))) ∧ p (exA M a) = true := by
  unfold arB at h
  split at h
  · next t0 n0 f e =>
    obtain ⟨h1, h2⟩ := Bool.and_eq_true_iff.mp h
    obtain ⟨h3, h4⟩ := Bool.and_eq_true_iff.mp h1
    have ef : exA M a = f := by unfold exA; rw [e]
    rw [ef, e, of_decide_eq_true h3, of_decide_eq_true h4]
    exact ⟨rfl, h2⟩
  · cases h
def rfB (M : Mm) (a t n : Nat) (p : (Nat → Option Nat) → Bool) : Bool := match M[a]? with
  | some (.inl (t0, n0, .inr (.inr (.inr (.inr f))))) => (decide (t0 = t) && decide (n0 = n)) && p f
  | _ => false
theorem rfB_ok {M : Mm} {a t n : Nat} {p : (Nat → Option Nat) → Bool} (h : rfB M a t n p = true) : ∃ g : Nat → Option Nat, M[a]? = some (.inl (t, n, .inr (.inr (.inr (.inr g))))) ∧ p g = true := by
  unfold rfB at h
  split at h
  · next t0 n0 f e =>
    obtain ⟨h1, h2⟩ := Bool.and_eq_true_iff.mp h
    obtain ⟨h3, h4⟩ := Bool.and_eq_true_iff.mp h1
    exact ⟨f, by rw [e, of_decide_eq_true h3, of_decide_eq_true h4], h2⟩
  · cases h
def alR (n : Nat) (p : Nat → Bool) : Bool := (List.range n).all p
theorem alR_ok {n : Nat} {p : Nat → Bool} (h : alR n p = true) : ∀ i, i < n → p i = true := fun i hi => List.all_eq_true.mp h i (List.mem_range.mpr hi)
def rwB (M : Mm) (a cap : Nat) (xs : List Int32) : Bool := decide (xs.length ≤ cap ∧ cap ≤ 1000) && (obB M a 3 [.ref (a + 1), .int (nI xs.length)] && arB M (a + 1) 0 cap (fun f => alR xs.length (fun i => decide (xs[i]? = some (f i)))))
theorem rwB_ok {M : Mm} {a cap : Nat} {xs : List Int32} (h : rwB M a cap xs = true) : Rw M a cap xs := by
  obtain ⟨h1, h2⟩ := Bool.and_eq_true_iff.mp h
  obtain ⟨h3, h4⟩ := Bool.and_eq_true_iff.mp h2
  obtain ⟨h5, h6⟩ := arB_ok h4
  have h1 := of_decide_eq_true h1
  exact ⟨h1.1, h1.2, obB_ok h3, _, h5, fun i hi => of_decide_eq_true (alR_ok h6 i hi)⟩
def s0r (i : Nat) : List Int32 := [[0, 0, 0], [], [], [], [], [], [], [], [1, 1, 1, 1, 1, 1], [0, 0, 0, 0, 0, 0, 0, 0], [], [], []].getD i []
def S0 : St := (s0r, fun _ => none, [], 1)
def sg0 : Sg := (S0, S0, 0, [0, 0, 0, 0, 0, 0], (fun _ => (0, [])), [])
theorem I_S0 : Iv S0 := ⟨by decide +kernel, by decide +kernel, by decide +kernel, by decide +kernel, by decide +kernel, fun u code _ h => (by cases h), by decide +kernel, fun c hc => absurd hc (Nat.not_lt_zero c)⟩
theorem I_0 : Ig sg0 := ⟨I_S0, I_S0, rfl, fun i _ => ⟨Nat.zero_le _, fun _ => rfl, Or.inl rfl⟩, Nat.zero_le _⟩
/-- beyond an array's length there is nothing -/
def Qn (M : Mm) : Prop := ∀ (k t n : Nat) (g : Nat → Option Nat) (c : Nat), M[k]? = some (.inl (t, n, .inr (.inr (.inr (.inr g))))) → n ≤ c → g c = none
def QG {β : Type} (R : β → Prop) (o : Option β) : Prop := ∀ r, o = some r → R r
section QS
variable {β : Type} {R : β → Prop}
theorem QG.b {o : Option Mm} {g : Mm → Option β} (h : QG Qn o) (k : ∀ M, Qn M → QG R (g M)) : QG R (o.bind g) := by
  intro r e
  cases o with
  | none => cases e
  | some x => exact k x (h x rfl) r e
theorem QG.a {α : Type} {o : Option α} {g : α → Option β} (k : ∀ x, QG R (g x)) : QG R (o.bind g) := by
  intro r e
  cases o with
  | none => cases e
  | some x => exact k x r e
theorem QG.p {α : Type} {o : Option (α × Mm)} {g : α → Mm → Option β} (h : QG (fun r => Qn r.2) o) (k : ∀ v M, Qn M → QG R (g v M)) : QG R (bd2 o g) := by
  intro r e
  cases o with
  | none => cases e
  | some x => exact k x.1 x.2 (h x rfl) r e
theorem QG.i {c : Prop} {d : Decidable c} {a b : Option β} (h : QG R a) (k : QG R b) : QG R (@ite _ c d a b) := by
  cases d with
  | isTrue z => exact h
  | isFalse z => exact k
theorem QG.s {x : β} (h : R x) : QG R (some x) := fun r e => by cases e; exact h
theorem QG.n : QG R (none : Option β) := fun r e => by cases e
end QS
theorem Qn.set {M : Mm} (h : Qn M) {a : Nat} {x : va_E} (hx : ∀ (t n : Nat) (g : Nat → Option Nat) (c : Nat), x = .inl (t, n, .inr (.inr (.inr (.inr g)))) → n ≤ c → g c = none) : Qn (M.set a x) := by
  intro k t n g c e hc
  by_cases z : a = k
  · subst z
    rw [List.getElem?_set_self (by have := lt_of_at e; simpa using this)] at e
    exact hx t n g c (Option.some.inj e) hc
  · rw [List.getElem?_set_ne z] at e
    exact h k t n g c e hc
theorem Qn.app {M : Mm} (h : Qn M) {x : va_E} (hx : ∀ (t n : Nat) (g : Nat → Option Nat) (c : Nat), x = .inl (t, n, .inr (.inr (.inr (.inr g)))) → n ≤ c → g c = none) : Qn (M ++ [x]) := by
  intro k t n g c e hc
  rcases Nat.lt_trichotomy k M.length with z | z | z
  · rw [List.getElem?_append_left z] at e
    exact h k t n g c e hc
  · subst z
    rw [List.getElem?_append_right (Nat.le_refl _), Nat.sub_self] at e
    exact hx t n g c (Option.some.inj e) hc
  · have := lt_of_at e
    rw [List.length_append] at this
    have : k < M.length + 1 := this
    omega
theorem Qn.kO {M : Mm} (h : Qn M) {ci : Nat} {fs : List Value} : QG Qn (some (nO M ci fs)) := QG.s (h.app (fun t n g c e => by cases e))
theorem Qn.kA {M : Mm} (h : Qn M) {t : Nat} {x : Int32} : QG Qn (nA M t x) := by
  unfold nA
  exact QG.i (QG.s (h.app (fun t n g c e => by cases e))) QG.n
theorem Qn.kR {M : Mm} (h : Qn M) {t : Nat} {x : Int32} : QG Qn (nR M t x) := by
  unfold nR
  exact QG.i (QG.s (h.app (fun t n g c e _ => by cases e; rfl))) QG.n
theorem Qn.kF {M : Mm} (h : Qn M) {ci a k : Nat} {v : Value} : QG Qn (pF M ci a k v) := by
  unfold pF
  split
  · exact QG.i (QG.s (h.set (fun t n g c e => by cases e))) QG.n
  · exact QG.n
theorem Qn.kI {M : Mm} (h : Qn M) {t a : Nat} {i x : Int32} : QG Qn (sI M t a i x) := by
  unfold sI
  split
  · exact QG.i (QG.s (h.set (fun t n g c e => by cases e))) QG.n
  · exact QG.n
theorem Qn.kS {M : Mm} (h : Qn M) {t ci a : Nat} {i : Int32} {r : Option Nat} : QG Qn (sR M t ci a i r) := by
  unfold sR
  split
  · next t0 n f e0 =>
    by_cases z : t0 = t ∧ ¬ (i < 0 ∨ n ≤ i.toNatClampNeg) ∧ isO M ci r = true
    · rw [if_pos z]
      refine QG.s (h.set (fun t' n' g c e hn => ?_))
      cases e
      have : ¬ n ≤ i.toNatClampNeg := fun q => z.2.1 (Or.inr q)
      rw [va_up_ne _ _ (by omega)]
      exact h _ _ _ _ c e0 hn
    · rw [if_neg z]; exact QG.n
  · exact QG.n
theorem Qn.X3 {M : Mm} (h : Qn M) {a : Nat} {x : Int32} : QG Qn (fX3_init M a x) := QG.a fun _ => QG.b h.kA fun _ h => QG.b h.kF fun _ h => QG.s h
theorem Qn.add {M : Mm} (h : Qn M) {a : Nat} {v : Int32} : QG (fun r => Qn r.2) (fX3_add M a v) := QG.a fun _ => QG.a fun _ => QG.i (QG.s h) (QG.a fun _ => QG.a fun _ => QG.a fun _ => QG.i (QG.a fun _ => QG.a fun _ => QG.b h.kI fun _ h => QG.a fun _ => QG.b h.kF fun _ h => QG.s h) (QG.s h))
theorem Qn.fillL {N a : Nat} {x v : Int32} : ∀ (n : Nat) (M : Mm) (i : Int32), Qn M → QG Qn (LX3_fill_6 N n M a x v i) := by
  intro n
  induction n with
  | zero => intro M i _; exact QG.n
  | succ n ih => intro M i h; exact QG.i (QG.s h) (QG.p h.add fun _ M h => ih M _ h)
theorem Qn.fill {N a : Nat} {x v : Int32} {M : Mm} (h : Qn M) : QG Qn (fX3_fill N M a x v) := QG.a fun _ => QG.b (QG.a fun _ => QG.b h.kF fun _ h => QG.s h) fun M h => Qn.fillL N M _ h
theorem Qn.X6 {N a : Nat} {M : Mm} (h : Qn M) : QG Qn (fX6_init N M a) := by
  unfold fX6_init
  repeat (first
    | exact QG.s (by assumption)
    | refine QG.b (Qn.kO (by assumption)) (fun _ _ => ?_)
    | refine QG.b (Qn.X3 (by assumption)) (fun _ _ => ?_)
    | refine QG.b (Qn.kF (by assumption)) (fun _ _ => ?_)
    | refine QG.b (Qn.kR (by assumption)) (fun _ _ => ?_)
    | refine QG.b (Qn.fill (by assumption)) (fun _ _ => ?_)
    | refine QG.a (fun _ => ?_))
theorem Qn.X7 {a : Nat} {M : Mm} (h : Qn M) : QG Qn (fX7_init M a) := by
  unfold fX7_init
  repeat (first
    | exact QG.s (by assumption)
    | refine QG.b (Qn.kO (by assumption)) (fun _ _ => ?_)
    | refine QG.b (Qn.X3 (by assumption)) (fun _ _ => ?_)
    | refine QG.b (Qn.kF (by assumption)) (fun _ _ => ?_))
theorem Qn.X1 {a : Nat} {M : Mm} (h : Qn M) : QG Qn (fX1_init M a) := by
  unfold fX1_init
  repeat (first
    | exact QG.s (by assumption)
    | refine QG.b (Qn.kO (by assumption)) (fun _ _ => ?_)
    | refine QG.b (Qn.X7 (by assumption)) (fun _ _ => ?_)
    | refine QG.b (Qn.X3 (by assumption)) (fun _ _ => ?_)
    | refine QG.b (Qn.kF (by assumption)) (fun _ _ => ?_))
theorem Qn.X5 {a : Nat} {M : Mm} (h : Qn M) : QG Qn (fX5_init M a) := by
  unfold fX5_init
  repeat (first
    | exact QG.s (by assumption)
    | refine QG.b (Qn.kO (by assumption)) (fun _ _ => ?_)
    | refine QG.b (Qn.X3 (by assumption)) (fun _ _ => ?_)
    | refine QG.b (Qn.kF (by assumption)) (fun _ _ => ?_))
theorem Qn.X9 {a : Nat} {M : Mm} (h : Qn M) : QG Qn (fX9_init M a) := by
  unfold fX9_init
  repeat (first
    | exact QG.s (by assumption)
    | refine QG.b (Qn.kO (by assumption)) (fun _ _ => ?_)
    | refine QG.b (Qn.X3 (by assumption)) (fun _ _ => ?_)
    | refine QG.b (Qn.kF (by assumption)) (fun _ _ => ?_))
theorem Qn.X2 {a : Nat} {M : Mm} (h : Qn M) : QG Qn (fX2_init M a) := by
  unfold fX2_init
  repeat (first
    | exact QG.s (by assumption)
    | refine QG.b (Qn.kO (by assumption)) (fun _ _ => ?_)
    | refine QG.b (Qn.X3 (by assumption)) (fun _ _ => ?_)
    | refine QG.b (Qn.kF (by assumption)) (fun _ _ => ?_))
theorem Qn.X4 {a : Nat} {M : Mm} (h : Qn M) : QG Qn (fX4_init M a) := by
  unfold fX4_init
  repeat (first
    | exact QG.s (by assumption)
    | refine QG.b (Qn.kO (by assumption)) (fun _ _ => ?_)
    | refine QG.b (Qn.X3 (by assumption)) (fun _ _ => ?_)
    | refine QG.b (Qn.kF (by assumption)) (fun _ _ => ?_))
theorem Qn.initL {N a : Nat} : ∀ (n : Nat) (M : Mm) (i : Int32), Qn M → QG Qn (LX10_init_59 N n M a i) := by
  intro n
  induction n with
  | zero => intro M i _; exact QG.n
  | succ n ih =>
    intro M i h
    show QG Qn (BX10_init_59 N (LX10_init_59 N n) M a i)
    unfold BX10_init_59
    refine QG.i ?_ (QG.a fun _ => QG.b h.kO fun _ h => QG.b h.X4 fun _ h => QG.b h.kS fun M h => ih M _ h)
    repeat (first
      | exact QG.s (by assumption)
      | refine QG.b (Qn.kO (by assumption)) (fun _ _ => ?_)
      | refine QG.b (Qn.X1 (by assumption)) (fun _ _ => ?_)
      | refine QG.b (Qn.X7 (by assumption)) (fun _ _ => ?_)
      | refine QG.b (Qn.X5 (by assumption)) (fun _ _ => ?_)
      | refine QG.b (Qn.X9 (by assumption)) (fun _ _ => ?_)
      | refine QG.b (Qn.X2 (by assumption)) (fun _ _ => ?_)
      | refine QG.b (Qn.kF (by assumption)) (fun _ _ => ?_))
theorem Qn.X10 {N a : Nat} {M : Mm} (h : Qn M) : QG Qn (fX10_init N M a) := by
  unfold fX10_init
  repeat (first
    | exact Qn.initL 5 _ _ (by assumption)
    | refine QG.b (Qn.kO (by assumption)) (fun _ _ => ?_)
    | refine QG.b (Qn.X6 (by assumption)) (fun _ _ => ?_)
    | refine QG.b (Qn.X3 (by assumption)) (fun _ _ => ?_)
    | refine QG.b (Qn.kF (by assumption)) (fun _ _ => ?_)
    | refine QG.b (Qn.kR (by assumption)) (fun _ _ => ?_)
    | refine QG.b (Qn.fill (by assumption)) (fun _ _ => ?_)
    | refine QG.a (fun _ => ?_))
theorem Qn.refL {N a : Nat} : ∀ (n : Nat) (M : Mm) (i : Int32), Qn M → QG Qn (LX11_init_135 N n M a i) := by
  intro n
  induction n with
  | zero => intro M i _; exact QG.n
  | succ n ih => intro M i h; exact QG.i (QG.s h) (QG.a fun _ => QG.b h.kI fun M h => ih M _ h)
theorem Qn.X11 {N a : Nat} {M : Mm} (h : Qn M) : QG Qn (fX11_init N M a) := by
  unfold fX11_init
  repeat (first
    | refine QG.b (Qn.kA (by assumption)) (fun _ _ => ?_)
    | refine QG.b (Qn.kF (by assumption)) (fun _ _ => ?_)
    | refine QG.b (Qn.kI (by assumption)) (fun _ _ => ?_)
    | refine QG.a (fun _ => ?_))
  exact Qn.refL _ _ _ (by assumption)
