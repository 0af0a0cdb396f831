/-! THE CLAIM OUT OF ONE WALK OF THE LAW'S BODY. Your part is whole_start (and what it stands on); all else here is the same for every law, but numbers. -/
def R_law : String := "BarsTogetherLaw"
def lw_P (b : Addr) (xs : List Int32) (args : Array Value) (s : State) : Prop := args = #[.ref b] ∧ s.IntsAt b xs ∧ xs.length ≤ 384 ∧ (Jvm.Cond.and given_1 narrow_1).before args s = true
def lw_Q (_ : Array Value) (s : State) (o : Outcome) (t : State) : Prop := o = .returned (some (.int 1)) ∧ Framed s o t [] 600000 7302250
def lw_Z (below : List Frame) (a : Array Value) (s : State) : State → Prop := fun t => ∃ o, t.status = .running ∧ Ended t below o ∧ lw_Q a s o t
/-- the law's own end, with 1 on the stack, nothing written that was there before, its room as the claim has it -/
theorem lw_ret {p : Program} {l : Launch} {e : Env} {s : State} {m : MethodId} {below : List Frame} {meth : Method} {c : Code} {b : Nat} (hx : p.tables.exec = Jvm.exec) (hb : c.code = code) (hr : meth.sig.returnType = ret) (hlocks : meth.locks = false) {pc : Nat} {H : Heap} {ls : Array Slot} (hdg : decode code pc = .ok (.ireturn, 1)) : W p l e room_1 s m #[Value.ref b] below meth c H [] 600000 7302250 (lw_Z below #[Value.ref b] s) (F0 m pc ls [.int 1]) := by
  intro T hT X
  obtain ⟨fs, hret, hrun, hended, hW, hframe⟩ := X.leave (v := some (.int 1)) (hlocks := hlocks) (fun h => by rw [hr] at h; cases h)
  have hmeth' : T.vm.method? m = some meth := X.method'
  refine ⟨T.setFrames fs, ?_, .returned (some (.int 1)), hrun, hended, rfl, ⟨_, rfl⟩, hW, hframe⟩
  jvm_step X.here [X.here.top, hx, hb, hdg, hmeth', hr, ret, narrow_b1]
  (try refine ⟨rfl, ?_⟩); (try refine ⟨rfl, ?_⟩)
  first | (intro acts; rw [hret _ acts rfl rfl rfl]) | rw [hret _ _ rfl rfl rfl]
  exact Steps.refl _
/-- what holds at the law's entry: the machine, the code, the tables' words (any of lw_tbl by 'hts w (by decide +kernel)'), the script of L ints xs at the cell b, what the Statement gives of the start (any of its parts by flat_of_before) -/
def lw_At (p : Program) (s : State) (m : MethodId) (meth : Method) (c : Code) (b L : Nat) (xs : Nat → Int32) : Prop :=
  p.tables.exec = Jvm.exec ∧ c.code = code ∧ meth.sig.returnType = ret ∧ c.maxLocals = 4 ∧ s.vm.findClass R_law = some m.cls ∧ (∀ w ∈ lw_tbl, w.before #[Value.ref b] s = true) ∧ va_X b L xs s s.heap ∧ b < s.heap.size ∧ meth.locks = false ∧ (Jvm.Cond.and given_1 narrow_1).before #[Value.ref b] s = true
def sX (L : Nat) (xs : Nat → Int32) (i : Int32) : Option Int32 := if ¬ (i < 0 ∨ L ≤ i.toNatClampNeg) then some (xs i.toNatClampNeg) else none
theorem sX_spec {L : Nat} {xs : Nat → Int32} {i v : Int32} (h : sX L xs i = some v) : vp_in i L ∧ v = xs i.toNatClampNeg := by
  unfold sX at h
  split at h
  · next hc => exact ⟨hc, (Option.some.inj h).symm⟩
  · cases h
/-- what is fixed in the law's walk -/
def Cl (p : Program) (s : State) (m : MethodId) (c : Code) (meth : Method) (b : Nat) (P : PT) : Prop := Cx p s m #[Value.ref b] c code 4 RL P ∧ meth.sig.returnType = ret ∧ meth.locks = false ∧ pB P = s.heap.size
abbrev Wl (p : Program) (l : Launch) (e : Env) (s : State) (m : MethodId) (below : List Frame) (meth : Method) (c : Code) (b : Nat) (P : PT) (cl pc : Nat) (lv : List (Nat × Value)) (st : List Value) (M : Mm) : Prop :=
  ∀ (H : Heap) (locs : List Loc) (ls : Array Slot), Wd P M s H locs → lv_has ls 4 lv → W p l e room_1 s m #[Value.ref b] below meth c H locs cl (1000 * cl) (lw_Z below #[Value.ref b] s) (F0 m pc ls st)
def jL_law_1942 (N : Nat) (L : Nat) (xs : Nat → Int32) (K18 : Mm → Nat → Nat → Int32 → Option (Int32 × Mm)) (M : Mm) (x1 x2 : Nat) (x3 : Int32) : Option (Int32 × Mm) :=
  (sX L xs ((x3 + (1 : Int32)))).bind fun v1 =>
  bd2 (fX10_told M x1 (v1)) fun v4 M5 =>
  (sX L xs ((x3 + (1 : Int32)))).bind fun v8 =>
  bd2 (fX11_told M5 x2 (v8)) fun v11 M12 =>
  if v4 = v11 then
  (K18 M12 x1 x2 ((x3 + (6 : Int32))))
  else
  (some ((0 : Int32), M12))
def jL_law_1919 (N : Nat) (L : Nat) (xs : Nat → Int32) (K18 : Mm → Nat → Nat → Int32 → Option (Int32 × Mm)) (M : Mm) (x1 x2 : Nat) (x3 : Int32) : Option (Int32 × Mm) :=
  (sX L xs ((x3 + (1 : Int32)))).bind fun v1 =>
  bd2 (fX10_count M x1 (v1)) fun v4 M5 =>
  (sX L xs ((x3 + (1 : Int32)))).bind fun v8 =>
  bd2 (fX11_count M5 x2 (v8)) fun v11 M12 =>
  if v4 = v11 then
  (K18 M12 x1 x2 ((x3 + (6 : Int32))))
  else
  (some ((0 : Int32), M12))
def jL_law_1896 (N : Nat) (L : Nat) (xs : Nat → Int32) (K18 : Mm → Nat → Nat → Int32 → Option (Int32 × Mm)) (M : Mm) (x1 x2 : Nat) (x3 : Int32) : Option (Int32 × Mm) :=
  (sX L xs ((x3 + (1 : Int32)))).bind fun v1 =>
  bd2 (fX10_check N M x1 (v1)) fun v4 M5 =>
  (sX L xs ((x3 + (1 : Int32)))).bind fun v8 =>
  bd2 (fX11_check N M5 x2 (v8)) fun v11 M12 =>
  if v4 = v11 then
  (K18 M12 x1 x2 ((x3 + (6 : Int32))))
  else
  (some ((0 : Int32), M12))
def jL_law_1873 (N : Nat) (L : Nat) (xs : Nat → Int32) (K18 : Mm → Nat → Nat → Int32 → Option (Int32 × Mm)) (M : Mm) (x1 x2 : Nat) (x3 : Int32) : Option (Int32 × Mm) :=
  (sX L xs ((x3 + (1 : Int32)))).bind fun v1 =>
  bd2 (fX10_tell M x1 (v1)) fun v4 M5 =>
  (sX L xs ((x3 + (1 : Int32)))).bind fun v8 =>
  bd2 (fX11_tell M5 x2 (v8)) fun v11 M12 =>
  if v4 = v11 then
  (K18 M12 x1 x2 ((x3 + (6 : Int32))))
  else
  (some ((0 : Int32), M12))
def jL_law_1860 (N : Nat) (L : Nat) (xs : Nat → Int32) (K18 : Mm → Nat → Nat → Int32 → Option (Int32 × Mm)) (M : Mm) (x1 x2 : Nat) (x3 : Int32) : Option (Int32 × Mm) :=
  bd2 (fX10_restore N M x1) fun v2 M3 =>
  bd2 (fX11_restore N M3 x2) fun v7 M8 =>
  if v2 = v7 then
  (K18 M8 x1 x2 ((x3 + (6 : Int32))))
  else
  (some ((0 : Int32), M8))
def jL_law_1847 (N : Nat) (L : Nat) (xs : Nat → Int32) (K18 : Mm → Nat → Nat → Int32 → Option (Int32 × Mm)) (M : Mm) (x1 x2 : Nat) (x3 : Int32) : Option (Int32 × Mm) :=
  bd2 (fX10_image N M x1) fun v2 M3 =>
  bd2 (fX11_image N M3 x2) fun v7 M8 =>
  if v2 = v7 then
  (K18 M8 x1 x2 ((x3 + (6 : Int32))))
  else
  (some ((0 : Int32), M8))
def jL_law_1784 (N : Nat) (L : Nat) (xs : Nat → Int32) (K18 : Mm → Nat → Nat → Int32 → Option (Int32 × Mm)) (M : Mm) (x1 x2 : Nat) (x3 : Int32) : Option (Int32 × Mm) :=
  (sX L xs ((x3 + (1 : Int32)))).bind fun v1 =>
  (sX L xs ((x3 + (2 : Int32)))).bind fun v3 =>
  (sX L xs ((x3 + (3 : Int32)))).bind fun v5 =>
  (sX L xs ((x3 + (4 : Int32)))).bind fun v7 =>
  (sX L xs ((x3 + (5 : Int32)))).bind fun v9 =>
  bd2 (fX10_move M x1 (v1) (v3) (v5) (v7) (v9)) fun v12 M13 =>
  (sX L xs ((x3 + (1 : Int32)))).bind fun v16 =>
  (sX L xs ((x3 + (2 : Int32)))).bind fun v18 =>
  (sX L xs ((x3 + (3 : Int32)))).bind fun v20 =>
  (sX L xs ((x3 + (4 : Int32)))).bind fun v22 =>
  (sX L xs ((x3 + (5 : Int32)))).bind fun v24 =>
  bd2 (fX11_move N M13 x2 (v16) (v18) (v20) (v22) (v24)) fun v27 M28 =>
  if v12 = v27 then
  (K18 M28 x1 x2 ((x3 + (6 : Int32))))
  else
  (some ((0 : Int32), M28))
def jL_law_1741 (N : Nat) (L : Nat) (xs : Nat → Int32) (K18 : Mm → Nat → Nat → Int32 → Option (Int32 × Mm)) (M : Mm) (x1 x2 : Nat) (x3 : Int32) : Option (Int32 × Mm) :=
  (sX L xs ((x3 + (1 : Int32)))).bind fun v1 =>
  (sX L xs ((x3 + (2 : Int32)))).bind fun v3 =>
  (sX L xs ((x3 + (3 : Int32)))).bind fun v5 =>
  bd2 (fX10_put M x1 (v1) (v3) (v5)) fun v8 M9 =>
  (sX L xs ((x3 + (1 : Int32)))).bind fun v12 =>
  (sX L xs ((x3 + (2 : Int32)))).bind fun v14 =>
  (sX L xs ((x3 + (3 : Int32)))).bind fun v16 =>
  bd2 (fX11_put M9 x2 (v12) (v14) (v16)) fun v19 M20 =>
  if v8 = v19 then
  (K18 M20 x1 x2 ((x3 + (6 : Int32))))
  else
  (some ((0 : Int32), M20))
def jL_law_1698 (N : Nat) (L : Nat) (xs : Nat → Int32) (K18 : Mm → Nat → Nat → Int32 → Option (Int32 × Mm)) (M : Mm) (x1 x2 : Nat) (x3 : Int32) : Option (Int32 × Mm) :=
  (sX L xs ((x3 + (1 : Int32)))).bind fun v1 =>
  (sX L xs ((x3 + (2 : Int32)))).bind fun v3 =>
  (sX L xs ((x3 + (3 : Int32)))).bind fun v5 =>
  bd2 (fX10_sheet N M x1 (v1) (v3) (v5)) fun v8 M9 =>
  (sX L xs ((x3 + (1 : Int32)))).bind fun v12 =>
  (sX L xs ((x3 + (2 : Int32)))).bind fun v14 =>
  (sX L xs ((x3 + (3 : Int32)))).bind fun v16 =>
  bd2 (fX11_sheet N M9 x2 (v12) (v14) (v16)) fun v19 M20 =>
  if v8 = v19 then
  (K18 M20 x1 x2 ((x3 + (6 : Int32))))
  else
  (some ((0 : Int32), M20))
def jL_law_1675 (N : Nat) (L : Nat) (xs : Nat → Int32) (K18 : Mm → Nat → Nat → Int32 → Option (Int32 × Mm)) (M : Mm) (x1 x2 : Nat) (x3 : Int32) : Option (Int32 × Mm) :=
  (sX L xs ((x3 + (1 : Int32)))).bind fun v1 =>
  bd2 (fX10_trace M x1 (v1)) fun v4 M5 =>
  (sX L xs ((x3 + (1 : Int32)))).bind fun v8 =>
  bd2 (fX11_trace M5 x2 (v8)) fun v11 M12 =>
  if v4 = v11 then
  (K18 M12 x1 x2 ((x3 + (6 : Int32))))
  else
  (some ((0 : Int32), M12))
def jL_law_1632 (N : Nat) (L : Nat) (xs : Nat → Int32) (K18 : Mm → Nat → Nat → Int32 → Option (Int32 × Mm)) (M : Mm) (x1 x2 : Nat) (x3 : Int32) : Option (Int32 × Mm) :=
  (sX L xs ((x3 + (1 : Int32)))).bind fun v1 =>
  (sX L xs ((x3 + (2 : Int32)))).bind fun v3 =>
  (sX L xs ((x3 + (3 : Int32)))).bind fun v5 =>
  bd2 (fX10_voice N M x1 (v1) (v3) (v5)) fun v8 M9 =>
  (sX L xs ((x3 + (1 : Int32)))).bind fun v12 =>
  (sX L xs ((x3 + (2 : Int32)))).bind fun v14 =>
  (sX L xs ((x3 + (3 : Int32)))).bind fun v16 =>
  bd2 (fX11_voice M9 x2 (v12) (v14) (v16)) fun v19 M20 =>
  if v8 = v19 then
  (K18 M20 x1 x2 ((x3 + (6 : Int32))))
  else
  (some ((0 : Int32), M20))
def jL_law_1599 (N : Nat) (L : Nat) (xs : Nat → Int32) (K18 : Mm → Nat → Nat → Int32 → Option (Int32 × Mm)) (M : Mm) (x1 x2 : Nat) (x3 : Int32) : Option (Int32 × Mm) :=
  (sX L xs ((x3 + (1 : Int32)))).bind fun v1 =>
  (sX L xs ((x3 + (2 : Int32)))).bind fun v3 =>
  bd2 (fX10_both N M x1 (v1) (v3)) fun v6 M7 =>
  (sX L xs ((x3 + (1 : Int32)))).bind fun v10 =>
  (sX L xs ((x3 + (2 : Int32)))).bind fun v12 =>
  bd2 (fX11_both_ N M7 x2 (v10) (v12)) fun v15 M16 =>
  if v6 = v15 then
  (K18 M16 x1 x2 ((x3 + (6 : Int32))))
  else
  (some ((0 : Int32), M16))
def jL_law_1566 (N : Nat) (L : Nat) (xs : Nat → Int32) (K18 : Mm → Nat → Nat → Int32 → Option (Int32 × Mm)) (M : Mm) (x1 x2 : Nat) (x3 : Int32) : Option (Int32 × Mm) :=
  (sX L xs ((x3 + (1 : Int32)))).bind fun v1 =>
  (sX L xs ((x3 + (2 : Int32)))).bind fun v3 =>
  bd2 (fX10_made N M x1 (v1) (v3)) fun v6 M7 =>
  (sX L xs ((x3 + (1 : Int32)))).bind fun v10 =>
  (sX L xs ((x3 + (2 : Int32)))).bind fun v12 =>
  bd2 (fX11_made N M7 x2 (v10) (v12)) fun v15 M16 =>
  if v6 = v15 then
  (K18 M16 x1 x2 ((x3 + (6 : Int32))))
  else
  (some ((0 : Int32), M16))
def jL_law_1543 (N : Nat) (L : Nat) (xs : Nat → Int32) (K18 : Mm → Nat → Nat → Int32 → Option (Int32 × Mm)) (M : Mm) (x1 x2 : Nat) (x3 : Int32) : Option (Int32 × Mm) :=
  (sX L xs ((x3 + (1 : Int32)))).bind fun v1 =>
  bd2 (fX10_seed M x1 (v1)) fun v4 M5 =>
  (sX L xs ((x3 + (1 : Int32)))).bind fun v8 =>
  bd2 (fX11_seed M5 x2 (v8)) fun v11 M12 =>
  if v4 = v11 then
  (K18 M12 x1 x2 ((x3 + (6 : Int32))))
  else
  (some ((0 : Int32), M12))
def jL_law_1500 (N : Nat) (L : Nat) (xs : Nat → Int32) (K18 : Mm → Nat → Nat → Int32 → Option (Int32 × Mm)) (M : Mm) (x1 x2 : Nat) (x3 : Int32) : Option (Int32 × Mm) :=
  (sX L xs ((x3 + (1 : Int32)))).bind fun v1 =>
  (sX L xs ((x3 + (2 : Int32)))).bind fun v3 =>
  (sX L xs ((x3 + (3 : Int32)))).bind fun v5 =>
  bd2 (fX10_gone N M x1 (v1) (v3) (v5)) fun v8 M9 =>
  (sX L xs ((x3 + (1 : Int32)))).bind fun v12 =>
  (sX L xs ((x3 + (2 : Int32)))).bind fun v14 =>
  (sX L xs ((x3 + (3 : Int32)))).bind fun v16 =>
  bd2 (fX11_gone N M9 x2 (v12) (v14) (v16)) fun v19 M20 =>
  if v8 = v19 then
  (K18 M20 x1 x2 ((x3 + (6 : Int32))))
  else
  (some ((0 : Int32), M20))
def jL_law_1477 (N : Nat) (L : Nat) (xs : Nat → Int32) (K18 : Mm → Nat → Nat → Int32 → Option (Int32 × Mm)) (M : Mm) (x1 x2 : Nat) (x3 : Int32) : Option (Int32 × Mm) :=
  (sX L xs ((x3 + (1 : Int32)))).bind fun v1 =>
  bd2 (fX10_bound N M x1 (v1)) fun v4 M5 =>
  (sX L xs ((x3 + (1 : Int32)))).bind fun v8 =>
  bd2 (fX11_bound N M5 x2 (v8)) fun v11 M12 =>
  if v4 = v11 then
  (K18 M12 x1 x2 ((x3 + (6 : Int32))))
  else
  (some ((0 : Int32), M12))
def jL_law_1444 (N : Nat) (L : Nat) (xs : Nat → Int32) (K18 : Mm → Nat → Nat → Int32 → Option (Int32 × Mm)) (M : Mm) (x1 x2 : Nat) (x3 : Int32) : Option (Int32 × Mm) :=
  (sX L xs ((x3 + (1 : Int32)))).bind fun v1 =>
  (sX L xs ((x3 + (2 : Int32)))).bind fun v3 =>
  bd2 (fX10_quiet M x1 (v1) (v3)) fun v6 M7 =>
  (sX L xs ((x3 + (1 : Int32)))).bind fun v10 =>
  (sX L xs ((x3 + (2 : Int32)))).bind fun v12 =>
  bd2 (fX11_quiet M7 x2 (v10) (v12)) fun v15 M16 =>
  if v6 = v15 then
  (K18 M16 x1 x2 ((x3 + (6 : Int32))))
  else
  (some ((0 : Int32), M16))
def jL_law_1411 (N : Nat) (L : Nat) (xs : Nat → Int32) (K18 : Mm → Nat → Nat → Int32 → Option (Int32 × Mm)) (M : Mm) (x1 x2 : Nat) (x3 : Int32) : Option (Int32 × Mm) :=
  (sX L xs ((x3 + (1 : Int32)))).bind fun v1 =>
  (sX L xs ((x3 + (2 : Int32)))).bind fun v3 =>
  bd2 (fX10_find N M x1 (v1) (v3)) fun v6 M7 =>
  (sX L xs ((x3 + (1 : Int32)))).bind fun v10 =>
  (sX L xs ((x3 + (2 : Int32)))).bind fun v12 =>
  bd2 (fX11_find N M7 x2 (v10) (v12)) fun v15 M16 =>
  if v6 = v15 then
  (K18 M16 x1 x2 ((x3 + (6 : Int32))))
  else
  (some ((0 : Int32), M16))
def jL_law_1388 (N : Nat) (L : Nat) (xs : Nat → Int32) (K18 : Mm → Nat → Nat → Int32 → Option (Int32 × Mm)) (M : Mm) (x1 x2 : Nat) (x3 : Int32) : Option (Int32 × Mm) :=
  (sX L xs ((x3 + (1 : Int32)))).bind fun v1 =>
  bd2 (fX10_say N M x1 (v1)) fun v4 M5 =>
  (sX L xs ((x3 + (1 : Int32)))).bind fun v8 =>
  bd2 (fX11_say N M5 x2 (v8)) fun v11 M12 =>
  if v4 = v11 then
  (K18 M12 x1 x2 ((x3 + (6 : Int32))))
  else
  (some ((0 : Int32), M12))
def jL_law_1344 (N : Nat) (L : Nat) (xs : Nat → Int32) (K18 : Mm → Nat → Nat → Int32 → Option (Int32 × Mm)) (M : Mm) (x1 x2 : Nat) (x3 : Int32) : Option (Int32 × Mm) :=
  (sX L xs ((x3 + (1 : Int32)))).bind fun v1 =>
  (sX L xs ((x3 + (2 : Int32)))).bind fun v3 =>
  (sX L xs ((x3 + (3 : Int32)))).bind fun v5 =>
  bd2 (fX10_all N M x1 (v1) (v3) (v5)) fun v8 M9 =>
  (sX L xs ((x3 + (1 : Int32)))).bind fun v12 =>
  (sX L xs ((x3 + (2 : Int32)))).bind fun v14 =>
  (sX L xs ((x3 + (3 : Int32)))).bind fun v16 =>
  bd2 (fX11_all N M9 x2 (v12) (v14) (v16)) fun v19 M20 =>
  if (lg_cmp v8 v19) = 0 then
  (K18 M20 x1 x2 ((x3 + (6 : Int32))))
  else
  (some ((0 : Int32), M20))
def jL_law_1311 (N : Nat) (L : Nat) (xs : Nat → Int32) (K18 : Mm → Nat → Nat → Int32 → Option (Int32 × Mm)) (M : Mm) (x1 x2 : Nat) (x3 : Int32) : Option (Int32 × Mm) :=
  (sX L xs ((x3 + (1 : Int32)))).bind fun v1 =>
  (sX L xs ((x3 + (2 : Int32)))).bind fun v3 =>
  bd2 (fX10_year M x1 (v1) (v3)) fun v6 M7 =>
  (sX L xs ((x3 + (1 : Int32)))).bind fun v10 =>
  (sX L xs ((x3 + (2 : Int32)))).bind fun v12 =>
  bd2 (fX11_year M7 x2 (v10) (v12)) fun v15 M16 =>
  if v6 = v15 then
  (K18 M16 x1 x2 ((x3 + (6 : Int32))))
  else
  (some ((0 : Int32), M16))
def jL_law_1278 (N : Nat) (L : Nat) (xs : Nat → Int32) (K18 : Mm → Nat → Nat → Int32 → Option (Int32 × Mm)) (M : Mm) (x1 x2 : Nat) (x3 : Int32) : Option (Int32 × Mm) :=
  (sX L xs ((x3 + (1 : Int32)))).bind fun v1 =>
  (sX L xs ((x3 + (2 : Int32)))).bind fun v3 =>
  bd2 (fX10_weight M x1 (v1) (v3)) fun v6 M7 =>
  (sX L xs ((x3 + (1 : Int32)))).bind fun v10 =>
  (sX L xs ((x3 + (2 : Int32)))).bind fun v12 =>
  bd2 (fX11_weight M7 x2 (v10) (v12)) fun v15 M16 =>
  if v6 = v15 then
  (K18 M16 x1 x2 ((x3 + (6 : Int32))))
  else
  (some ((0 : Int32), M16))
def jL_law_1215 (N : Nat) (L : Nat) (xs : Nat → Int32) (K18 : Mm → Nat → Nat → Int32 → Option (Int32 × Mm)) (M : Mm) (x1 x2 : Nat) (x3 : Int32) : Option (Int32 × Mm) :=
  (sX L xs ((x3 + (1 : Int32)))).bind fun v1 =>
  (sX L xs ((x3 + (2 : Int32)))).bind fun v3 =>
  (sX L xs ((x3 + (3 : Int32)))).bind fun v5 =>
  (sX L xs ((x3 + (4 : Int32)))).bind fun v7 =>
  (sX L xs ((x3 + (5 : Int32)))).bind fun v9 =>
  bd2 (fX10_tried N M x1 (v1) (v3) (v5) (v7) (v9)) fun v12 M13 =>
  (sX L xs ((x3 + (1 : Int32)))).bind fun v16 =>
  (sX L xs ((x3 + (2 : Int32)))).bind fun v18 =>
  (sX L xs ((x3 + (3 : Int32)))).bind fun v20 =>
  (sX L xs ((x3 + (4 : Int32)))).bind fun v22 =>
  (sX L xs ((x3 + (5 : Int32)))).bind fun v24 =>
  bd2 (fX11_tried N M13 x2 (v16) (v18) (v20) (v22) (v24)) fun v27 M28 =>
  if v12 = v27 then
  (K18 M28 x1 x2 ((x3 + (6 : Int32))))
  else
  (some ((0 : Int32), M28))
def jL_law_1162 (N : Nat) (L : Nat) (xs : Nat → Int32) (K18 : Mm → Nat → Nat → Int32 → Option (Int32 × Mm)) (M : Mm) (x1 x2 : Nat) (x3 : Int32) : Option (Int32 × Mm) :=
  (sX L xs ((x3 + (1 : Int32)))).bind fun v1 =>
  (sX L xs ((x3 + (2 : Int32)))).bind fun v3 =>
  (sX L xs ((x3 + (3 : Int32)))).bind fun v5 =>
  (sX L xs ((x3 + (4 : Int32)))).bind fun v7 =>
  bd2 (fX10_stars N M x1 (v1) (v3) (v5) (v7)) fun v10 M11 =>
  (sX L xs ((x3 + (1 : Int32)))).bind fun v14 =>
  (sX L xs ((x3 + (2 : Int32)))).bind fun v16 =>
  (sX L xs ((x3 + (3 : Int32)))).bind fun v18 =>
  (sX L xs ((x3 + (4 : Int32)))).bind fun v20 =>
  bd2 (fX11_stars N M11 x2 (v14) (v16) (v18) (v20)) fun v23 M24 =>
  if v10 = v23 then
  (K18 M24 x1 x2 ((x3 + (6 : Int32))))
  else
  (some ((0 : Int32), M24))
def jL_law_1119 (N : Nat) (L : Nat) (xs : Nat → Int32) (K18 : Mm → Nat → Nat → Int32 → Option (Int32 × Mm)) (M : Mm) (x1 x2 : Nat) (x3 : Int32) : Option (Int32 × Mm) :=
  (sX L xs ((x3 + (1 : Int32)))).bind fun v1 =>
  (sX L xs ((x3 + (2 : Int32)))).bind fun v3 =>
  (sX L xs ((x3 + (3 : Int32)))).bind fun v5 =>
  bd2 (fX10_spread N M x1 (v1) (v3) (v5)) fun v8 M9 =>
  (sX L xs ((x3 + (1 : Int32)))).bind fun v12 =>
  (sX L xs ((x3 + (2 : Int32)))).bind fun v14 =>
  (sX L xs ((x3 + (3 : Int32)))).bind fun v16 =>
  bd2 (fX11_spread N M9 x2 (v12) (v14) (v16)) fun v19 M20 =>
  if v8 = v19 then
  (K18 M20 x1 x2 ((x3 + (6 : Int32))))
  else
  (some ((0 : Int32), M20))
def jL_law_1066 (N : Nat) (L : Nat) (xs : Nat → Int32) (K18 : Mm → Nat → Nat → Int32 → Option (Int32 × Mm)) (M : Mm) (x1 x2 : Nat) (x3 : Int32) : Option (Int32 × Mm) :=
  (sX L xs ((x3 + (1 : Int32)))).bind fun v1 =>
  (sX L xs ((x3 + (2 : Int32)))).bind fun v3 =>
  (sX L xs ((x3 + (3 : Int32)))).bind fun v5 =>
  (sX L xs ((x3 + (4 : Int32)))).bind fun v7 =>
  bd2 (fX10_hours N M x1 (v1) (v3) (v5) (v7)) fun v10 M11 =>
  (sX L xs ((x3 + (1 : Int32)))).bind fun v14 =>
  (sX L xs ((x3 + (2 : Int32)))).bind fun v16 =>
  (sX L xs ((x3 + (3 : Int32)))).bind fun v18 =>
  (sX L xs ((x3 + (4 : Int32)))).bind fun v20 =>
  bd2 (fX11_hours N M11 x2 (v14) (v16) (v18) (v20)) fun v23 M24 =>
  if v10 = v23 then
  (K18 M24 x1 x2 ((x3 + (6 : Int32))))
  else
  (some ((0 : Int32), M24))
def jL_law_1023 (N : Nat) (L : Nat) (xs : Nat → Int32) (K18 : Mm → Nat → Nat → Int32 → Option (Int32 × Mm)) (M : Mm) (x1 x2 : Nat) (x3 : Int32) : Option (Int32 × Mm) :=
  (sX L xs ((x3 + (1 : Int32)))).bind fun v1 =>
  (sX L xs ((x3 + (2 : Int32)))).bind fun v3 =>
  (sX L xs ((x3 + (3 : Int32)))).bind fun v5 =>
  bd2 (fX10_wrong N M x1 (v1) (v3) (v5)) fun v8 M9 =>
  (sX L xs ((x3 + (1 : Int32)))).bind fun v12 =>
  (sX L xs ((x3 + (2 : Int32)))).bind fun v14 =>
  (sX L xs ((x3 + (3 : Int32)))).bind fun v16 =>
  bd2 (fX11_wrong N M9 x2 (v12) (v14) (v16)) fun v19 M20 =>
  if v8 = v19 then
  (K18 M20 x1 x2 ((x3 + (6 : Int32))))
  else
  (some ((0 : Int32), M20))
def jL_law_980 (N : Nat) (L : Nat) (xs : Nat → Int32) (K18 : Mm → Nat → Nat → Int32 → Option (Int32 × Mm)) (M : Mm) (x1 x2 : Nat) (x3 : Int32) : Option (Int32 × Mm) :=
  (sX L xs ((x3 + (1 : Int32)))).bind fun v1 =>
  (sX L xs ((x3 + (2 : Int32)))).bind fun v3 =>
  (sX L xs ((x3 + (3 : Int32)))).bind fun v5 =>
  bd2 (fX10_seen N M x1 (v1) (v3) (v5)) fun v8 M9 =>
  (sX L xs ((x3 + (1 : Int32)))).bind fun v12 =>
  (sX L xs ((x3 + (2 : Int32)))).bind fun v14 =>
  (sX L xs ((x3 + (3 : Int32)))).bind fun v16 =>
  bd2 (fX11_seen N M9 x2 (v12) (v14) (v16)) fun v19 M20 =>
  if v8 = v19 then
  (K18 M20 x1 x2 ((x3 + (6 : Int32))))
  else
  (some ((0 : Int32), M20))
def jL_law_957 (N : Nat) (L : Nat) (xs : Nat → Int32) (K18 : Mm → Nat → Nat → Int32 → Option (Int32 × Mm)) (M : Mm) (x1 x2 : Nat) (x3 : Int32) : Option (Int32 × Mm) :=
  (sX L xs ((x3 + (1 : Int32)))).bind fun v1 =>
  bd2 (fX10_let M x1 (v1)) fun v4 M5 =>
  (sX L xs ((x3 + (1 : Int32)))).bind fun v8 =>
  bd2 (fX11_let M5 x2 (v8)) fun v11 M12 =>
  if v4 = v11 then
  (K18 M12 x1 x2 ((x3 + (6 : Int32))))
  else
  (some ((0 : Int32), M12))
def jL_law_914 (N : Nat) (L : Nat) (xs : Nat → Int32) (K18 : Mm → Nat → Nat → Int32 → Option (Int32 × Mm)) (M : Mm) (x1 x2 : Nat) (x3 : Int32) : Option (Int32 × Mm) :=
  (sX L xs ((x3 + (1 : Int32)))).bind fun v1 =>
  (sX L xs ((x3 + (2 : Int32)))).bind fun v3 =>
  (sX L xs ((x3 + (3 : Int32)))).bind fun v5 =>
  bd2 (fX10_paid N M x1 (v1) (v3) (v5)) fun v8 M9 =>
  (sX L xs ((x3 + (1 : Int32)))).bind fun v12 =>
  (sX L xs ((x3 + (2 : Int32)))).bind fun v14 =>
  (sX L xs ((x3 + (3 : Int32)))).bind fun v16 =>
  bd2 (fX11_paid N M9 x2 (v12) (v14) (v16)) fun v19 M20 =>
  if v8 = v19 then
  (K18 M20 x1 x2 ((x3 + (6 : Int32))))
  else
  (some ((0 : Int32), M20))
def jL_law_881 (N : Nat) (L : Nat) (xs : Nat → Int32) (K18 : Mm → Nat → Nat → Int32 → Option (Int32 × Mm)) (M : Mm) (x1 x2 : Nat) (x3 : Int32) : Option (Int32 × Mm) :=
  (sX L xs ((x3 + (1 : Int32)))).bind fun v1 =>
  (sX L xs ((x3 + (2 : Int32)))).bind fun v3 =>
  bd2 (fX10_chosen N M x1 (v1) (v3)) fun v6 M7 =>
  (sX L xs ((x3 + (1 : Int32)))).bind fun v10 =>
  (sX L xs ((x3 + (2 : Int32)))).bind fun v12 =>
  bd2 (fX11_chosen N M7 x2 (v10) (v12)) fun v15 M16 =>
  if v6 = v15 then
  (K18 M16 x1 x2 ((x3 + (6 : Int32))))
  else
  (some ((0 : Int32), M16))
def jL_law_858 (N : Nat) (L : Nat) (xs : Nat → Int32) (K18 : Mm → Nat → Nat → Int32 → Option (Int32 × Mm)) (M : Mm) (x1 x2 : Nat) (x3 : Int32) : Option (Int32 × Mm) :=
  (sX L xs ((x3 + (1 : Int32)))).bind fun v1 =>
  bd2 (fX10_line M x1 (v1)) fun v4 M5 =>
  (sX L xs ((x3 + (1 : Int32)))).bind fun v8 =>
  bd2 (fX11_line M5 x2 (v8)) fun v11 M12 =>
  if v4 = v11 then
  (K18 M12 x1 x2 ((x3 + (6 : Int32))))
  else
  (some ((0 : Int32), M12))
def jL_law_815 (N : Nat) (L : Nat) (xs : Nat → Int32) (K18 : Mm → Nat → Nat → Int32 → Option (Int32 × Mm)) (M : Mm) (x1 x2 : Nat) (x3 : Int32) : Option (Int32 × Mm) :=
  (sX L xs ((x3 + (1 : Int32)))).bind fun v1 =>
  (sX L xs ((x3 + (2 : Int32)))).bind fun v3 =>
  (sX L xs ((x3 + (3 : Int32)))).bind fun v5 =>
  bd2 (fX10_ahead N M x1 (v1) (v3) (v5)) fun v8 M9 =>
  (sX L xs ((x3 + (1 : Int32)))).bind fun v12 =>
  (sX L xs ((x3 + (2 : Int32)))).bind fun v14 =>
  (sX L xs ((x3 + (3 : Int32)))).bind fun v16 =>
  bd2 (fX11_ahead N M9 x2 (v12) (v14) (v16)) fun v19 M20 =>
  if v8 = v19 then
  (K18 M20 x1 x2 ((x3 + (6 : Int32))))
  else
  (some ((0 : Int32), M20))
def jL_law_772 (N : Nat) (L : Nat) (xs : Nat → Int32) (K18 : Mm → Nat → Nat → Int32 → Option (Int32 × Mm)) (M : Mm) (x1 x2 : Nat) (x3 : Int32) : Option (Int32 × Mm) :=
  (sX L xs ((x3 + (1 : Int32)))).bind fun v1 =>
  (sX L xs ((x3 + (2 : Int32)))).bind fun v3 =>
  (sX L xs ((x3 + (3 : Int32)))).bind fun v5 =>
  bd2 (fX10_chance N M x1 (v1) (v3) (v5)) fun v8 M9 =>
  (sX L xs ((x3 + (1 : Int32)))).bind fun v12 =>
  (sX L xs ((x3 + (2 : Int32)))).bind fun v14 =>
  (sX L xs ((x3 + (3 : Int32)))).bind fun v16 =>
  bd2 (fX11_chance N M9 x2 (v12) (v14) (v16)) fun v19 M20 =>
  if v8 = v19 then
  (K18 M20 x1 x2 ((x3 + (6 : Int32))))
  else
  (some ((0 : Int32), M20))
def jL_law_749 (N : Nat) (L : Nat) (xs : Nat → Int32) (K18 : Mm → Nat → Nat → Int32 → Option (Int32 × Mm)) (M : Mm) (x1 x2 : Nat) (x3 : Int32) : Option (Int32 × Mm) :=
  (sX L xs ((x3 + (1 : Int32)))).bind fun v1 =>
  bd2 (fX10_gives N M x1 (v1)) fun v4 M5 =>
  (sX L xs ((x3 + (1 : Int32)))).bind fun v8 =>
  bd2 (fX11_gives N M5 x2 (v8)) fun v11 M12 =>
  if v4 = v11 then
  (K18 M12 x1 x2 ((x3 + (6 : Int32))))
  else
  (some ((0 : Int32), M12))
def jL_law_716 (N : Nat) (L : Nat) (xs : Nat → Int32) (K18 : Mm → Nat → Nat → Int32 → Option (Int32 × Mm)) (M : Mm) (x1 x2 : Nat) (x3 : Int32) : Option (Int32 × Mm) :=
  (sX L xs ((x3 + (1 : Int32)))).bind fun v1 =>
  (sX L xs ((x3 + (2 : Int32)))).bind fun v3 =>
  bd2 (fX10_as N M x1 (v1) (v3)) fun v6 M7 =>
  (sX L xs ((x3 + (1 : Int32)))).bind fun v10 =>
  (sX L xs ((x3 + (2 : Int32)))).bind fun v12 =>
  bd2 (fX11_as M7 x2 (v10) (v12)) fun v15 M16 =>
  if v6 = v15 then
  (K18 M16 x1 x2 ((x3 + (6 : Int32))))
  else
  (some ((0 : Int32), M16))
def jL_law_653 (N : Nat) (L : Nat) (xs : Nat → Int32) (K18 : Mm → Nat → Nat → Int32 → Option (Int32 × Mm)) (M : Mm) (x1 x2 : Nat) (x3 : Int32) : Option (Int32 × Mm) :=
  (sX L xs ((x3 + (1 : Int32)))).bind fun v1 =>
  (sX L xs ((x3 + (2 : Int32)))).bind fun v3 =>
  (sX L xs ((x3 + (3 : Int32)))).bind fun v5 =>
  (sX L xs ((x3 + (4 : Int32)))).bind fun v7 =>
  (sX L xs ((x3 + (5 : Int32)))).bind fun v9 =>
  bd2 (fX10_counting M x1 (v1) (v3) (v5) (v7) (v9)) fun v12 M13 =>
  (sX L xs ((x3 + (1 : Int32)))).bind fun v16 =>
  (sX L xs ((x3 + (2 : Int32)))).bind fun v18 =>
  (sX L xs ((x3 + (3 : Int32)))).bind fun v20 =>
  (sX L xs ((x3 + (4 : Int32)))).bind fun v22 =>
  (sX L xs ((x3 + (5 : Int32)))).bind fun v24 =>
  bd2 (fX11_counting M13 x2 (v16) (v18) (v20) (v22) (v24)) fun v27 M28 =>
  if v12 = v27 then
  (K18 M28 x1 x2 ((x3 + (6 : Int32))))
  else
  (some ((0 : Int32), M28))
def jL_law_600 (N : Nat) (L : Nat) (xs : Nat → Int32) (K18 : Mm → Nat → Nat → Int32 → Option (Int32 × Mm)) (M : Mm) (x1 x2 : Nat) (x3 : Int32) : Option (Int32 × Mm) :=
  (sX L xs ((x3 + (1 : Int32)))).bind fun v1 =>
  (sX L xs ((x3 + (2 : Int32)))).bind fun v3 =>
  (sX L xs ((x3 + (3 : Int32)))).bind fun v5 =>
  (sX L xs ((x3 + (4 : Int32)))).bind fun v7 =>
  bd2 (fX10_meets N M x1 (v1) (v3) (v5) (v7)) fun v10 M11 =>
  (sX L xs ((x3 + (1 : Int32)))).bind fun v14 =>
  (sX L xs ((x3 + (2 : Int32)))).bind fun v16 =>
  (sX L xs ((x3 + (3 : Int32)))).bind fun v18 =>
  (sX L xs ((x3 + (4 : Int32)))).bind fun v20 =>
  bd2 (fX11_meets N M11 x2 (v14) (v16) (v18) (v20)) fun v23 M24 =>
  if v10 = v23 then
  (K18 M24 x1 x2 ((x3 + (6 : Int32))))
  else
  (some ((0 : Int32), M24))
def jL_law_557 (N : Nat) (L : Nat) (xs : Nat → Int32) (K18 : Mm → Nat → Nat → Int32 → Option (Int32 × Mm)) (M : Mm) (x1 x2 : Nat) (x3 : Int32) : Option (Int32 × Mm) :=
  (sX L xs ((x3 + (1 : Int32)))).bind fun v1 =>
  (sX L xs ((x3 + (2 : Int32)))).bind fun v3 =>
  (sX L xs ((x3 + (3 : Int32)))).bind fun v5 =>
  bd2 (fX10_law N M x1 (v1) (v3) (v5)) fun v8 M9 =>
  (sX L xs ((x3 + (1 : Int32)))).bind fun v12 =>
  (sX L xs ((x3 + (2 : Int32)))).bind fun v14 =>
  (sX L xs ((x3 + (3 : Int32)))).bind fun v16 =>
  bd2 (fX11_law N M9 x2 (v12) (v14) (v16)) fun v19 M20 =>
  if v8 = v19 then
  (K18 M20 x1 x2 ((x3 + (6 : Int32))))
  else
  (some ((0 : Int32), M20))
def jL_law_534 (N : Nat) (L : Nat) (xs : Nat → Int32) (K18 : Mm → Nat → Nat → Int32 → Option (Int32 × Mm)) (M : Mm) (x1 x2 : Nat) (x3 : Int32) : Option (Int32 × Mm) :=
  (sX L xs ((x3 + (1 : Int32)))).bind fun v1 =>
  bd2 (fX10_text N M x1 (v1)) fun v4 M5 =>
  (sX L xs ((x3 + (1 : Int32)))).bind fun v8 =>
  bd2 (fX11_text N M5 x2 (v8)) fun v11 M12 =>
  if v4 = v11 then
  (K18 M12 x1 x2 ((x3 + (6 : Int32))))
  else
  (some ((0 : Int32), M12))
def jL_law_471 (N : Nat) (L : Nat) (xs : Nat → Int32) (K18 : Mm → Nat → Nat → Int32 → Option (Int32 × Mm)) (M : Mm) (x1 x2 : Nat) (x3 : Int32) : Option (Int32 × Mm) :=
  (sX L xs ((x3 + (1 : Int32)))).bind fun v1 =>
  (sX L xs ((x3 + (2 : Int32)))).bind fun v3 =>
  (sX L xs ((x3 + (3 : Int32)))).bind fun v5 =>
  bd2 (fX10_feed N M x1 ((((((v1).toInt64) <<< (((32 : Int32)).toInt64 &&& 63))) ||| (((v3).toInt64) &&& (4294967295 : Int64)))) (v5)) fun v8 M9 =>
  (sX L xs ((x3 + (1 : Int32)))).bind fun v12 =>
  (sX L xs ((x3 + (2 : Int32)))).bind fun v14 =>
  (sX L xs ((x3 + (3 : Int32)))).bind fun v16 =>
  bd2 (fX11_feed N M9 x2 ((((((v12).toInt64) <<< (((32 : Int32)).toInt64 &&& 63))) ||| (((v14).toInt64) &&& (4294967295 : Int64)))) (v16)) fun v19 M20 =>
  if v8 = v19 then
  (K18 M20 x1 x2 ((x3 + (6 : Int32))))
  else
  (some ((0 : Int32), M20))
def jL_law_438 (N : Nat) (L : Nat) (xs : Nat → Int32) (K18 : Mm → Nat → Nat → Int32 → Option (Int32 × Mm)) (M : Mm) (x1 x2 : Nat) (x3 : Int32) : Option (Int32 × Mm) :=
  (sX L xs ((x3 + (1 : Int32)))).bind fun v1 =>
  (sX L xs ((x3 + (2 : Int32)))).bind fun v3 =>
  bd2 (fX10_rows N M x1 (v1) (v3)) fun v6 M7 =>
  (sX L xs ((x3 + (1 : Int32)))).bind fun v10 =>
  (sX L xs ((x3 + (2 : Int32)))).bind fun v12 =>
  bd2 (fX11_rows N M7 x2 (v10) (v12)) fun v15 M16 =>
  if v6 = v15 then
  (K18 M16 x1 x2 ((x3 + (6 : Int32))))
  else
  (some ((0 : Int32), M16))
def jL_law_405 (N : Nat) (L : Nat) (xs : Nat → Int32) (K18 : Mm → Nat → Nat → Int32 → Option (Int32 × Mm)) (M : Mm) (x1 x2 : Nat) (x3 : Int32) : Option (Int32 × Mm) :=
  (sX L xs ((x3 + (1 : Int32)))).bind fun v1 =>
  (sX L xs ((x3 + (2 : Int32)))).bind fun v3 =>
  bd2 (fX10_counts N M x1 (v1) (v3)) fun v6 M7 =>
  (sX L xs ((x3 + (1 : Int32)))).bind fun v10 =>
  (sX L xs ((x3 + (2 : Int32)))).bind fun v12 =>
  bd2 (fX11_counts N M7 x2 (v10) (v12)) fun v15 M16 =>
  if v6 = v15 then
  (K18 M16 x1 x2 ((x3 + (6 : Int32))))
  else
  (some ((0 : Int32), M16))
def jL_law_372 (N : Nat) (L : Nat) (xs : Nat → Int32) (K18 : Mm → Nat → Nat → Int32 → Option (Int32 × Mm)) (M : Mm) (x1 x2 : Nat) (x3 : Int32) : Option (Int32 × Mm) :=
  (sX L xs ((x3 + (1 : Int32)))).bind fun v1 =>
  (sX L xs ((x3 + (2 : Int32)))).bind fun v3 =>
  bd2 (fX10_onTape N M x1 (v1) (v3)) fun v6 M7 =>
  (sX L xs ((x3 + (1 : Int32)))).bind fun v10 =>
  (sX L xs ((x3 + (2 : Int32)))).bind fun v12 =>
  bd2 (fX11_onTape N M7 x2 (v10) (v12)) fun v15 M16 =>
  if v6 = v15 then
  (K18 M16 x1 x2 ((x3 + (6 : Int32))))
  else
  (some ((0 : Int32), M16))
def jL_law_339 (N : Nat) (L : Nat) (xs : Nat → Int32) (K18 : Mm → Nat → Nat → Int32 → Option (Int32 × Mm)) (M : Mm) (x1 x2 : Nat) (x3 : Int32) : Option (Int32 × Mm) :=
  (sX L xs ((x3 + (1 : Int32)))).bind fun v1 =>
  (sX L xs ((x3 + (2 : Int32)))).bind fun v3 =>
  bd2 (fX10_ringOf N M x1 (v1) (v3)) fun v6 M7 =>
  (sX L xs ((x3 + (1 : Int32)))).bind fun v10 =>
  (sX L xs ((x3 + (2 : Int32)))).bind fun v12 =>
  bd2 (fX11_ringOf N M7 x2 (v10) (v12)) fun v15 M16 =>
  if v6 = v15 then
  (K18 M16 x1 x2 ((x3 + (6 : Int32))))
  else
  (some ((0 : Int32), M16))
def jL_law_296 (N : Nat) (L : Nat) (xs : Nat → Int32) (K18 : Mm → Nat → Nat → Int32 → Option (Int32 × Mm)) (M : Mm) (x1 x2 : Nat) (x3 : Int32) : Option (Int32 × Mm) :=
  (sX L xs ((x3 + (1 : Int32)))).bind fun v1 =>
  (sX L xs ((x3 + (2 : Int32)))).bind fun v3 =>
  (sX L xs ((x3 + (3 : Int32)))).bind fun v5 =>
  bd2 (fX10_ring M x1 (v1) (v3) (v5)) fun v8 M9 =>
  (sX L xs ((x3 + (1 : Int32)))).bind fun v12 =>
  (sX L xs ((x3 + (2 : Int32)))).bind fun v14 =>
  (sX L xs ((x3 + (3 : Int32)))).bind fun v16 =>
  bd2 (fX11_ring_ M9 x2 (v12) (v14) (v16)) fun v19 M20 =>
  if v8 = v19 then
  (K18 M20 x1 x2 ((x3 + (6 : Int32))))
  else
  (some ((0 : Int32), M20))
def jL_law_273 (N : Nat) (L : Nat) (xs : Nat → Int32) (K18 : Mm → Nat → Nat → Int32 → Option (Int32 × Mm)) (M : Mm) (x1 x2 : Nat) (x3 : Int32) : Option (Int32 × Mm) :=
  (sX L xs ((x3 + (1 : Int32)))).bind fun v1 =>
  bd2 (fX10_bar M x1 (v1)) fun v4 M5 =>
  (sX L xs ((x3 + (1 : Int32)))).bind fun v8 =>
  bd2 (fX11_bar M5 x2 (v8)) fun v11 M12 =>
  if v4 = v11 then
  (K18 M12 x1 x2 ((x3 + (6 : Int32))))
  else
  (some ((0 : Int32), M12))
def jL_law_240 (N : Nat) (L : Nat) (xs : Nat → Int32) (K18 : Mm → Nat → Nat → Int32 → Option (Int32 × Mm)) (M : Mm) (x1 x2 : Nat) (x3 : Int32) : Option (Int32 × Mm) :=
  (sX L xs ((x3 + (1 : Int32)))).bind fun v1 =>
  (sX L xs ((x3 + (2 : Int32)))).bind fun v3 =>
  bd2 (fX10_clock M x1 (v1) (v3)) fun v6 M7 =>
  (sX L xs ((x3 + (1 : Int32)))).bind fun v10 =>
  (sX L xs ((x3 + (2 : Int32)))).bind fun v12 =>
  bd2 (fX11_clock M7 x2 (v10) (v12)) fun v15 M16 =>
  if v6 = v15 then
  (K18 M16 x1 x2 ((x3 + (6 : Int32))))
  else
  (some ((0 : Int32), M16))
def BL_law_18 (N : Nat) (L : Nat) (xs : Nat → Int32) (K18 : Mm → Nat → Nat → Int32 → Option (Int32 × Mm)) (M : Mm) (x1 x2 : Nat) (x3 : Int32) : Option (Int32 × Mm) :=
  if ((Int32.ofNat L) - (6 : Int32)) < x3 then
  (some ((1 : Int32), M))
  else
  ((sX L xs x3).bind fun v1 =>
  if (v1 &&& (63 : Int32)) = (0 : Int32) then
  (jL_law_240 N L xs K18 M x1 x2 x3)
  else
  (if (v1 &&& (63 : Int32)) = (1 : Int32) then
  (jL_law_273 N L xs K18 M x1 x2 x3)
  else
  (if (v1 &&& (63 : Int32)) = (2 : Int32) then
  (jL_law_296 N L xs K18 M x1 x2 x3)
  else
  (if (v1 &&& (63 : Int32)) = (3 : Int32) then
  (jL_law_339 N L xs K18 M x1 x2 x3)
  else
  (if (v1 &&& (63 : Int32)) = (4 : Int32) then
  (jL_law_372 N L xs K18 M x1 x2 x3)
  else
  (if (v1 &&& (63 : Int32)) = (5 : Int32) then
  (jL_law_405 N L xs K18 M x1 x2 x3)
  else
  (if (v1 &&& (63 : Int32)) = (6 : Int32) then
  (jL_law_438 N L xs K18 M x1 x2 x3)
  else
  (if (v1 &&& (63 : Int32)) = (7 : Int32) then
  (jL_law_471 N L xs K18 M x1 x2 x3)
  else
  (if (v1 &&& (63 : Int32)) = (8 : Int32) then
  (jL_law_534 N L xs K18 M x1 x2 x3)
  else
  (if (v1 &&& (63 : Int32)) = (9 : Int32) then
  (jL_law_557 N L xs K18 M x1 x2 x3)
  else
  (if (v1 &&& (63 : Int32)) = (10 : Int32) then
  (jL_law_600 N L xs K18 M x1 x2 x3)
  else
  (if (v1 &&& (63 : Int32)) = (11 : Int32) then
  (jL_law_653 N L xs K18 M x1 x2 x3)
  else
  (if (v1 &&& (63 : Int32)) = (12 : Int32) then
  (jL_law_716 N L xs K18 M x1 x2 x3)
  else
  (if (v1 &&& (63 : Int32)) = (13 : Int32) then
  (jL_law_749 N L xs K18 M x1 x2 x3)
  else
  (if (v1 &&& (63 : Int32)) = (14 : Int32) then
  (jL_law_772 N L xs K18 M x1 x2 x3)
  else
  (if (v1 &&& (63 : Int32)) = (15 : Int32) then
  (jL_law_815 N L xs K18 M x1 x2 x3)
  else
  (if (v1 &&& (63 : Int32)) = (16 : Int32) then
  (jL_law_858 N L xs K18 M x1 x2 x3)
  else
  (if (v1 &&& (63 : Int32)) = (17 : Int32) then
  (jL_law_881 N L xs K18 M x1 x2 x3)
  else
  (if (v1 &&& (63 : Int32)) = (18 : Int32) then
  (jL_law_914 N L xs K18 M x1 x2 x3)
  else
  (if (v1 &&& (63 : Int32)) = (19 : Int32) then
  (jL_law_957 N L xs K18 M x1 x2 x3)
  else
  (if (v1 &&& (63 : Int32)) = (20 : Int32) then
  (jL_law_980 N L xs K18 M x1 x2 x3)
  else
  (if (v1 &&& (63 : Int32)) = (21 : Int32) then
  (jL_law_1023 N L xs K18 M x1 x2 x3)
  else
  (if (v1 &&& (63 : Int32)) = (22 : Int32) then
  (jL_law_1066 N L xs K18 M x1 x2 x3)
  else
  (if (v1 &&& (63 : Int32)) = (23 : Int32) then
  (jL_law_1119 N L xs K18 M x1 x2 x3)
  else
  (if (v1 &&& (63 : Int32)) = (24 : Int32) then
  (jL_law_1162 N L xs K18 M x1 x2 x3)
  else
  (if (v1 &&& (63 : Int32)) = (25 : Int32) then
  (jL_law_1215 N L xs K18 M x1 x2 x3)
  else
  (if (v1 &&& (63 : Int32)) = (26 : Int32) then
  (jL_law_1278 N L xs K18 M x1 x2 x3)
  else
  (if (v1 &&& (63 : Int32)) = (27 : Int32) then
  (jL_law_1311 N L xs K18 M x1 x2 x3)
  else
  (if (v1 &&& (63 : Int32)) = (28 : Int32) then
  (jL_law_1344 N L xs K18 M x1 x2 x3)
  else
  (if (v1 &&& (63 : Int32)) = (29 : Int32) then
  (jL_law_1388 N L xs K18 M x1 x2 x3)
  else
  (if (v1 &&& (63 : Int32)) = (30 : Int32) then
  (jL_law_1411 N L xs K18 M x1 x2 x3)
  else
  (if (v1 &&& (63 : Int32)) = (31 : Int32) then
  (jL_law_1444 N L xs K18 M x1 x2 x3)
  else
  (if (v1 &&& (63 : Int32)) = (32 : Int32) then
  (jL_law_1477 N L xs K18 M x1 x2 x3)
  else
  (if (v1 &&& (63 : Int32)) = (33 : Int32) then
  (jL_law_1500 N L xs K18 M x1 x2 x3)
  else
  (if (v1 &&& (63 : Int32)) = (34 : Int32) then
  (jL_law_1543 N L xs K18 M x1 x2 x3)
  else
  (if (v1 &&& (63 : Int32)) = (35 : Int32) then
  (jL_law_1566 N L xs K18 M x1 x2 x3)
  else
  (if (v1 &&& (63 : Int32)) = (36 : Int32) then
  (jL_law_1599 N L xs K18 M x1 x2 x3)
  else
  (if (v1 &&& (63 : Int32)) = (37 : Int32) then
  (jL_law_1632 N L xs K18 M x1 x2 x3)
  else
  (if (v1 &&& (63 : Int32)) = (38 : Int32) then
  (jL_law_1675 N L xs K18 M x1 x2 x3)
  else
  (if (v1 &&& (63 : Int32)) = (39 : Int32) then
  (jL_law_1698 N L xs K18 M x1 x2 x3)
  else
  (if (v1 &&& (63 : Int32)) = (40 : Int32) then
  (jL_law_1741 N L xs K18 M x1 x2 x3)
  else
  (if (v1 &&& (63 : Int32)) = (41 : Int32) then
  (jL_law_1784 N L xs K18 M x1 x2 x3)
  else
  (if (v1 &&& (63 : Int32)) = (42 : Int32) then
  (jL_law_1847 N L xs K18 M x1 x2 x3)
  else
  (if (v1 &&& (63 : Int32)) = (43 : Int32) then
  (jL_law_1860 N L xs K18 M x1 x2 x3)
  else
  (if (v1 &&& (63 : Int32)) = (44 : Int32) then
  (jL_law_1873 N L xs K18 M x1 x2 x3)
  else
  (if (v1 &&& (63 : Int32)) = (45 : Int32) then
  (jL_law_1896 N L xs K18 M x1 x2 x3)
  else
  (if (v1 &&& (63 : Int32)) = (46 : Int32) then
  (jL_law_1919 N L xs K18 M x1 x2 x3)
  else
  (if (v1 &&& (63 : Int32)) = (47 : Int32) then
  (jL_law_1942 N L xs K18 M x1 x2 x3)
  else
  (K18 M x1 x2 ((x3 + (6 : Int32))))))))))))))))))))))))))))))))))))))))))))))))))))
def LL_law_18 (N : Nat) (L : Nat) (xs : Nat → Int32) : Nat → Mm → Nat → Nat → Int32 → Option (Int32 × Mm)
  | 0, _, _, _, _ => none
  | n + 1, M, x1, x2, x3 => BL_law_18 N L xs (LL_law_18 N L xs n) M x1 x2 x3
def fL_law (N : Nat) (L : Nat) (xs : Nat → Int32) (M : Mm) : Option (Int32 × Mm) :=
  (some (nO M 10 [.null, .null, .int 0, .null, .null, .null, .null, .null, .null, .null])).bind fun M1 =>
  (fX10_init N M1 M.length).bind fun M4 =>
  (some (nO M4 11 [.null, .null, .int 0, .null, .null, .null, .null, .null, .null, .null, .int 0, .int 0, .int 0, .int 0, .int 0, .null, .null, .null, .null, .null, .null, .int 0, .int 0, .int 0, .int 0])).bind fun M5 =>
  (fX11_init N M5 M4.length).bind fun M8 =>
  LL_law_18 N L xs 65 M8 M.length M4.length ((0 : Int32))
