/-! MEMORY AS DATA. M: the cells made since the law began, in their order; a reference is a place in M; the real address is B + place. P: what is fixed of a run. -/
/-- the tables' words that last over a call -/
def gd_tbl : List Cond := lw_tbl.filter goodWord
theorem gd_at {w : Cond} (i : Nat) (h : lw_tbl[i]? = some w) (hg : goodWord w = true) : w ∈ gd_tbl := List.mem_filter.mpr ⟨List.mem_of_getElem? h, hg⟩
abbrev Mm : Type := List va_E
abbrev PT : Type := va_G × Nat × (Nat → ClassId) × (Nat → Nat) × (Nat → Nat) × Nat
abbrev pD (P : PT) : va_G := P.1
abbrev pB (P : PT) : Nat := P.2.1
abbrev pC (P : PT) : Nat → ClassId := P.2.2.1
abbrev pK (P : PT) : Nat → Nat := P.2.2.2.1
abbrev pV (P : PT) : Nat → Nat := P.2.2.2.2.1
abbrev pO (P : PT) : Nat := P.2.2.2.2.2
def rO (P : PT) (r : Option Nat) : Value := va_rf (r.map (fun k => pB P + k))
def rv (P : PT) (v : Value) : Value := match v with
  | .ref k => .ref (pB P + k)
  | .float u => .ref (pK P u.toNat)
  | v => v
def rA (P : PT) (x : vp_A) : vp_A := match x with
  | (n, .inr (.inr (.inr (.inr f)))) => (n, .inr (.inr (.inr (.inr (fun j => (f j).map (fun k => pB P + k))))))
  | x => x
def rl (P : PT) (e : va_E) : va_E := match e with
  | .inl a => .inl (pC P a.1, rA P a.2)
  | .inr o => .inr (o.1, o.2.map (rv P))
def wo (P : PT) (M : Mm) : va_W := M.mapIdx (fun k e => (pB P + k, rl P e))
theorem wo_at {P : PT} {M : Mm} {k : Nat} {e : va_E} (h : M[k]? = some e) : (wo P M)[k]? = some (pB P + k, rl P e) := by
  simp [wo, List.getElem?_mapIdx, h]
theorem wo_inv {P : PT} {M : Mm} {k : Nat} {q : Nat × va_E} (h : (wo P M)[k]? = some q) : ∃ e, M[k]? = some e ∧ q = (pB P + k, rl P e) := by
  simp only [wo, List.getElem?_mapIdx, Option.map_eq_some_iff] at h
  obtain ⟨e, h1, h2⟩ := h
  exact ⟨e, h1, h2.symm⟩
theorem wo_set {P : PT} {M : Mm} {k : Nat} {e : va_E} : (wo P M).set k (pB P + k, rl P e) = wo P (M.set k e) := by
  apply List.ext_getElem?
  intro i
  simp only [wo, List.getElem?_set, List.getElem?_mapIdx, List.length_mapIdx]
  by_cases h : k = i
  · subst h
    by_cases h2 : k < M.length <;> simp [h2]
  · simp [h]
theorem wo_push {P : PT} {M : Mm} {e : va_E} : wo P (M ++ [e]) = wo P M ++ [(pB P + M.length, rl P e)] := by
  simp [wo, List.mapIdx_append]
theorem wo_D {P : PT} {M : Mm} : va_D (fun q => pB P ≤ q) (wo P M) := by
  refine ⟨fun i j p q hi hj h => ?_, fun k q h => ?_⟩
  · obtain ⟨e1, -, rfl⟩ := wo_inv hi
    obtain ⟨e2, -, rfl⟩ := wo_inv hj
    exact Nat.add_left_cancel h
  · obtain ⟨e1, -, rfl⟩ := wo_inv h
    exact Nat.le_add_right _ _
/-- the heap holds M from B on, and nothing behind it -/
def Rp (P : PT) (M : Mm) (H : Heap) : Prop := H.size = pB P + M.length ∧ va_P (pD P) vwCl (wo P M) H
def Wd (P : PT) (M : Mm) (s : State) (H : Heap) (locs : List Loc) : Prop := Rp P M H ∧ va_S (fun q => pB P ≤ q) s.heap H locs
def tyT (k : Nat) : FieldType := match k with
  | 0 => .int
  | 1 => .boolean
  | 2 => .object RX8
  | 3 => .object RX0
  | _ => .object RX4
def tysL (P : PT) : List (ClassId × FieldType) := [(pC P 0, tyT 0), (pC P 1, tyT 1), (pC P 2, tyT 2), (pC P 3, tyT 3), (pC P 4, tyT 4)]
theorem tysL_at {P : PT} {t : Nat} (h : t < 5) : (tysL P)[t]? = some (pC P t, tyT t) := by
  match t, h with
  | 0, _ => rfl
  | 1, _ => rfl
  | 2, _ => rfl
  | 3, _ => rfl
  | 4, _ => rfl
/-! the String constants, by numbers -/
def st_tx (k : Nat) : String := match k with
  | 0 => "" | 1 => "hgtb" | 2 => "ny" | 3 => "!(" | 4 => ")" | 5 => "0123456789" | 6 => "|" | 7 => "&" | 8 => "<=>" | 9 => "+-" | _ => "*/%"
def st_own (k : Nat) : String := match k with
  | 1 => RX10 | 2 => RX10 | _ => RX2
def st_ix (k : Nat) : Nat := match k with
  | 0 => 23 | 1 => 181 | 2 => 183 | 3 => 85 | 4 => 94 | 5 => 96 | 6 => 67 | 7 => 69 | 8 => 71 | 9 => 73 | _ => 75
def st_by : List (List Int32) := [[], [104, 103, 116, 98], [110, 121], [33, 40], [41], [48, 49, 50, 51, 52, 53, 54, 55, 56, 57], [124], [38], [60, 61, 62], [43, 45], [42, 47, 37]]
def st_len : List Nat := [0, 4, 2, 2, 1, 10, 1, 1, 3, 2, 3]
def bo_l : List Int32 := [10, 11, 12, 13, 0, 20, 0, 0, 30, 0, 0, 0, 0, 0, 0, 40, 0, 0, 50, 0, 0, 60, 0, 0, 70, 0, 0, 71, 0, 80, 0, 81]
/-- the tables' words on private members of nest mates: they last over a call in another way -/
def nwW : Cond → Bool
  | .fieldLinkNest .. => true
  | .methodLinkNest .. => true
  | _ => false
def nw_tbl : List Cond := lw_tbl.filter nwW
theorem nw_at {w : Cond} (i : Nat) (h : lw_tbl[i]? = some w) (hg : nwW w = true) : w ∈ nw_tbl := List.mem_filter.mpr ⟨List.mem_of_getElem? h, hg⟩
def Nn (U : State) : Prop := (∀ w ∈ nw_tbl, va_Nw w U) ∧ va_AO RX8 U ∧ va_AO RX0 U ∧ va_AO RX4 U
theorem Nn.warm {s U : State} (h : Nn s) (hW : s.WarmedH U.vm) : Nn U := by
  obtain ⟨h1, h2, h3, h4⟩ := h
  refine ⟨fun w hw => ?_, va_AO.moved hW.alike h2, va_AO.moved hW.alike h3, va_AO.moved hW.alike h4⟩
  have hk := (List.mem_filter.mp hw).2
  have h0 := h1 w hw
  cases w <;> first | exact va_Nw.warmF hW h0 | exact va_Nw.warmM hW h0 | (simp [nwW] at hk; done)
theorem Nn.same {u U : State} (hvm : u.vm = U.vm) (h : Nn u) : Nn U := by
  obtain ⟨h1, h2, h3, h4⟩ := h
  have al : u.vm.Alike U.vm := hvm ▸ Vm.Alike.refl u.vm
  refine ⟨fun w hw => ?_, va_AO.moved al h2, va_AO.moved al h3, va_AO.moved al h4⟩
  have hk := (List.mem_filter.mp hw).2
  have h0 := h1 w hw
  cases w <;> first | exact va_Nw.same rfl hvm h0 | (simp [nwW] at hk; done)
/-- what stands outside M and stays: tables, String constants, static fields -/
def Gs (P : PT) (U : State) : Prop := va_K (pD P) vwCl (tysL P) U ∧ pB P ≤ U.heap.size ∧ vk_S 11 st_len st_by (pK P) (pV P) (fun q => pB P ≤ q) U U.heap ∧ (∀ i, i < 11 → vk_R (st_own i) (st_ix i) (st_tx i) (pK P i) U) ∧ va_Z RX9 "BODIES" "[I" (.ref (pO P)) (fun q => pB P ≤ q) U U.heap ∧ va_T .int (pO P) 32 (fun j => .int (bo_l.getD j 0)) (fun q => pB P ≤ q) U U.heap ∧ va_Z "java/lang/String" "COMPACT_STRINGS" "Z" (.int 1) (fun q => pB P ≤ q) U U.heap ∧ Nn U
theorem Gs.nn {P : PT} {U : State} (h : Gs P U) : Nn U := h.2.2.2.2.2.2.2
theorem Gs.call {P : PT} {s U : State} {H : Heap} {locs : List Loc} (h : Gs P s) (hS : va_S (fun q => pB P ≤ q) s.heap H locs) (hU : U.heap = H) (hW : s.WarmedH U.vm) : Gs P U := by
  obtain ⟨h1, h2, h3, h4, h5, h6, h7, h8⟩ := h
  subst hU
  have al := hW.alike
  exact ⟨va_K.moved al h1, Nat.le_trans h2 hS.1, (vk_S.moved al h3).kept hS.2.1, fun i hi => (h4 i hi).warm hW, (va_Z.moved al h5).kept hS.2.1, (va_T.moved al h6).kept hS.2.1, (va_Z.moved al h7).kept hS.2.1, h8.warm hW⟩
theorem Gs.blind {P : PT} {U : State} {g : JFrame} {mk : MethodId} {a : Array Value} (h : Gs P U) : Gs P (U.calling g mk a) := by
  obtain ⟨h1, h2, h3, h4, h5, h6, h7, h8⟩ := h
  have al : U.vm.Alike (U.calling g mk a).vm := Vm.Alike.refl U.vm
  exact ⟨va_K.moved (u := U) (U := U.calling g mk a) al h1, h2, vk_S.moved (u := U) (U := U.calling g mk a) al h3, fun i hi => vk_R.same (u := U) (U := U.calling g mk a) rfl (h4 i hi), va_Z.moved (u := U) (U := U.calling g mk a) al h5, va_T.moved (u := U) (U := U.calling g mk a) al h6, va_Z.moved (u := U) (U := U.calling g mk a) al h7, Nn.same (u := U) (U := U.calling g mk a) rfl h8⟩
/-! CONTRACTS: from every state that holds M, the method answers ov and leaves M' -/
def Pp (P : PT) (M : Mm) (U : State) : Prop := Gs P U ∧ Rp P M U.heap
def Qp (P : PT) (ov : Option Value) (M' : Mm) : Array Value → State → Outcome → State → Prop := fun _ st oc t => oc = .returned ov ∧ Rp P M' t.heap ∧ va_F (fun q => pB P ≤ q) st t
def rmd (d mc : Nat) : Room := { frames := d, cells := mc, slots := 1000 * mc, locals := 41 * d }
def Ct (l : Launch) (y : MethodName) (cc : ByteArray) (n : Nat) (ret : Option FieldType) (d mc : Nat) (P : PT) (av : List Value) (M : Mm) (ov : Option Value) (M' : Mm) : Prop :=
  Met l y (Cond.code y cc n ret :: gd_tbl) (rmd d mc) (va_Pc av (Pp P M)) (Qp P ov M') mc (1000 * mc) (fun q => pB P ≤ q)
def Cx (p : Program) (s : State) (m : MethodId) (args : Array Value) (c : Code) (cc : ByteArray) (nL : Nat) (own : String) (P : PT) : Prop := CallFix p m c cc nL s args gd_tbl own ∧ Gs P s
/-! MEMORY'S ACTS -/
def gF (M : Mm) (ci a k : Nat) : Option Value := match M[a]? with
  | some (.inr o) => if o.1 = ci then o.2[k]? else none
  | _ => none
def gI (M : Mm) (ci a k : Nat) : Option Int32 := match gF M ci a k with
  | some (.int x) => some x
  | _ => none
def gR (M : Mm) (ci a k : Nat) : Option (Option Nat) := match gF M ci a k with
  | some (.ref x) => some (some x)
  | some .null => some none
  | _ => none
def gS (M : Mm) (ci a k : Nat) : Option Nat := match gF M ci a k with
  | some (.float u) => some u.toNat
  | _ => none
def pF (M : Mm) (ci a k : Nat) (v : Value) : Option Mm := match M[a]? with
  | some (.inr o) => if o.1 = ci ∧ k < o.2.length then some (M.set a (.inr (o.1, o.2.set k v))) else none
  | _ => none
def vO (r : Option Nat) : Value := match r with
  | some k => .ref k
  | none => .null
def aL (M : Mm) (a : Nat) : Option Int32 := match M[a]? with
  | some (.inl x) => if x.1 < 5 then some (Int32.ofNat x.2.1) else none
  | _ => none
def aI (M : Mm) (t a : Nat) (i : Int32) : Option Int32 := match M[a]? with
  | some (.inl (t0, n, .inl f)) => if t0 = t ∧ ¬ (i < 0 ∨ n ≤ i.toNatClampNeg) then some (f i.toNatClampNeg) else none
  | _ => none
def sI (M : Mm) (t a : Nat) (i x : Int32) : Option Mm := match M[a]? with
  | some (.inl (t0, n, .inl f)) => if t0 = t ∧ ¬ (i < 0 ∨ n ≤ i.toNatClampNeg) then some (M.set a (.inl (t0, n, .inl (upd f i.toNatClampNeg x)))) else none
  | _ => none
def aR (M : Mm) (t a : Nat) (i : Int32) : Option (Option Nat) := match M[a]? with
  | some (.inl (t0, n, .inr (.inr (.inr (.inr f))))) => if t0 = t ∧ ¬ (i < 0 ∨ n ≤ i.toNatClampNeg) then some (f i.toNatClampNeg) else none
  | _ => none
def isO (M : Mm) (ci : Nat) (r : Option Nat) : Bool := match r with
  | none => true
  | some v => match M[v]? with
    | some (.inr o) => decide (o.1 = ci)
    | _ => false
def sR (M : Mm) (t ci a : Nat) (i : Int32) (r : Option Nat) : Option Mm := match M[a]? with
  | some (.inl (t0, n, .inr (.inr (.inr (.inr f))))) => if t0 = t ∧ ¬ (i < 0 ∨ n ≤ i.toNatClampNeg) ∧ isO M ci r = true then some (M.set a (.inl (t0, n, .inr (.inr (.inr (.inr (va_up f i.toNatClampNeg r))))))) else none
  | _ => none
def cpI (M : Mm) (a : Nat) (sp : Int32) (b : Nat) (dp n : Int32) : Option Mm := match M[a]?, M[b]? with
  | some (.inl (0, n0, .inl f)), some (.inl (0, n1, .inl g)) => if ¬ sp < 0 ∧ ¬ dp < 0 ∧ ¬ n < 0 ∧ sp.toNatClampNeg + n.toNatClampNeg ≤ n0 ∧ dp.toNatClampNeg + n.toNatClampNeg ≤ n1 then some (M.set b (.inl (0, n1, .inl (va_cpy f g sp.toNatClampNeg dp.toNatClampNeg n.toNatClampNeg)))) else none
  | _, _ => none
def nO (M : Mm) (ci : Nat) (fs : List Value) : Mm := M ++ [.inr (ci, fs)]
def nA (M : Mm) (t : Nat) (n : Int32) : Option Mm := if ¬ n < 0 ∧ n.toNatClampNeg ≤ 1000 then some (M ++ [.inl (t, n.toNatClampNeg, .inl (fun _ => 0))]) else none
def nR (M : Mm) (t : Nat) (n : Int32) : Option Mm := if ¬ n < 0 ∧ n.toNatClampNeg ≤ 1000 then some (M ++ [.inl (t, n.toNatClampNeg, .inr (.inr (.inr (.inr (fun _ => none)))))]) else none
def zr (x : Int32) : Option Int32 := if x = 0 ∨ x = 1 then some x else none
def dI (x y : Int32) : Option Int32 := if y = 0 then none else some (x / y)
def mI (x y : Int32) : Option Int32 := if y = 0 then none else some (x - x / y * y)
def dJ (x y : Int64) : Option Int64 := if y = 0 then none else some (x / y)
def mJ (x y : Int64) : Option Int64 := if y = 0 then none else some (x - x / y * y)
def fM (x y : Int32) : Option Int32 := if y = 0 then none else some (fmv x y)
/-! a bind that came out, a branch that was taken -/
theorem ob {α β : Type} {o : Option α} {f : α → Option β} {r : β} (h : o.bind f = some r) : ∃ x, o = some x ∧ f x = some r := Option.bind_eq_some_iff.mp h
theorem obp {α γ β : Type} {o : Option (α × γ)} {f : α × γ → Option β} {r : β} (h : o.bind f = some r) : ∃ x y, o = some (x, y) ∧ f (x, y) = some r := by
  obtain ⟨⟨x, y⟩, h1, h2⟩ := Option.bind_eq_some_iff.mp h
  exact ⟨x, y, h1, h2⟩
theorem if_t {c : Prop} [Decidable c] {α : Type} {a b r : α} (hc : c) (h : (if c then a else b) = r) : a = r := by rw [if_pos hc] at h; exact h
theorem if_f {c : Prop} [Decidable c] {α : Type} {a b r : α} (hc : ¬ c) (h : (if c then a else b) = r) : b = r := by rw [if_neg hc] at h; exact h
