/-! making, calling, returning -/
section BC
variable {p : Program} {l : Launch} {e : Env} {R : Room} {s : State} {m : MethodId} {args : Array Value} {below : List Frame} {meth : Method} {c : Code} {H : Heap} {locs : List Loc} {cells slots : Nat} {Q : State → Prop}
variable {cc : ByteArray} {pc nL : Nat} {ls : Array Slot} {rest : List Value} {own : String} {P : PT} {M M' : Mm} {index ci a k : Nat}
theorem Wd.grow {e0 : va_E} {H1 : Heap} (hM : Wd P M s H locs) (hz : H1.size = H.size + 1) (ho : ∀ q, q < H.size → H1[q]? = H[q]?) (he : va_at (pD P) vwCl (H.size, rl P e0) H1) : Wd P (M ++ [e0]) s H1 locs := by
  obtain ⟨⟨h1, h2⟩, h3⟩ := hM
  refine ⟨⟨by rw [hz, h1, List.length_append]; rfl, ?_⟩, ⟨Nat.le_trans h3.1 (by omega), fun q a b => (ho q (Nat.lt_of_lt_of_le a h3.1)).trans (h3.2.1 q a b), h3.2.2⟩⟩
  rw [wo_push]
  refine va_P.app (h2.kept fun k q hq => ho _ (h2 k q hq).lt) (fun k q hq => ?_)
  have hk : k < 1 := (List.getElem?_eq_some_iff.mp hq).1
  rw [show k = 0 by omega] at hq
  cases hq
  rw [← h1]
  exact he
theorem bz_new (X : Cx p s m args c cc nL own P) (hM : Wd P M s H locs) {C : String} {T : u_T} {N : Nat} {tys : Nat → FieldType} (hF : CF ci C T N tys) (hcl : Cond.classLink own index C ∈ gd_tbl) (hins : Cond.instantiable C N ∈ gd_tbl) (hini : Cond.initialized C ∈ gd_tbl) (fs : List Value) (hfs : ∀ j, j < N → defaultValue (tys j) = vp_V fs j) (hfr : fs.map (rv P) = fs) (hc : cells + 1 ≤ R.cells) (hs : slots + 1000 ≤ R.slots) (hd : decode cc pc = .ok (.new index, 3))
    (kk : ∀ H1 : Heap, Wd P (nO M ci fs) s H1 locs → W p l e R s m args below meth c H1 locs (cells + 1) (slots + 1000) Q (F0 m (pc + 3) ls (.ref (pB P + M.length) :: rest))) : W p l e R s m args below meth c H locs cells slots Q (F0 m pc ls rest) := by
  obtain ⟨⟨hx, hb, -, hown, hts⟩, hG⟩ := X
  obtain ⟨c1, c2, c3, -, c5⟩ := hF
  have hKn := hG.1.1 ci _ c1
  refine W.newcK hx hb hown (hts _ hcl) (hts _ hins) (hts _ hini) rfl hd hc (by omega) hKn.2.1 rfl fun H1 kC hkC e1 z1 o1 => ?_
  refine W.widen (Nat.le_refl _) (show slots + N ≤ slots + 1000 by omega) ?_
  rw [hM.1.1]
  refine kk H1 (hM.grow z1 o1 ?_)
  show ∃ r : vw_C, _
  rw [show (ci, fs.map (rv P)) = (ci, fs) by rw [hfr]]
  exact ⟨_, c1, (u_born tys hts c2 hKn hkC e1 c3).to hfs⟩
theorem bz_newa (X : Cx p s m args c cc nL own P) (hM : Wd P M s H locs) (t : Nat) (atype : ArrayType) (ht : t < 5) (hty : newarray.typeOf atype = tyT t) (h4 : componentBytes (tyT t) ≤ 4) (hdf : defaultValue (tyT t) = .int 0) (harr : Cond.arrayClass (tyT t) ∈ gd_tbl) {n : Int32} (hg : nA M t n = some M') (hc : cells + 1 ≤ R.cells) (hs : slots + 1000 ≤ R.slots) (hd : decode cc pc = .ok (.newarray atype, 2))
    (kk : ∀ H1 : Heap, Wd P M' s H1 locs → W p l e R s m args below meth c H1 locs (cells + 1) (slots + 1000) Q (F0 m (pc + 2) ls (.ref (pB P + M.length) :: rest))) : W p l e R s m args below meth c H locs cells slots Q (F0 m pc ls (.int n :: rest)) := by
  obtain ⟨⟨hx, hb, -, hown, hts⟩, hG⟩ := X
  unfold nA at hg
  split at hg
  · next hn =>
    cases hg
    have hN : n.toNatClampNeg * componentBytes (newarray.typeOf atype) ≤ 536870912 := by
      rw [hty]
      exact Nat.le_trans (Nat.mul_le_mul hn.2 h4) (by decide)
    refine va_newaK hx hb (hts _ (by rw [hty]; exact harr)) rfl hd rfl hn.1 rfl hN hc (by omega) rfl fun H1 cA e1 z1 o1 hAr hNm => ?_
    refine W.widen (Nat.le_refl _) (show slots + n.toNatClampNeg ≤ slots + 1000 by omega) ?_
    have hcA : cA = pC P t := by
      have h1 := (hG.1.2 t _ (tysL_at ht)).2
      rw [hty] at hNm
      have h2 : s.vm.findClass ("[" ++ (tyT t).toString) = some (pC P t) := by
        match t, ht, hdf with
        | 0, _, _ => exact h1
        | 1, _, _ => exact h1
        | 2, _, h => exact absurd (show Value.null = Value.int 0 from h) (by simp)
        | 3, _, h => exact absurd (show Value.null = Value.int 0 from h) (by simp)
        | 4, _, h => exact absurd (show Value.null = Value.int 0 from h) (by simp)
      exact Option.some.inj (hNm.symm.trans h2)
    subst hcA
    rw [hM.1.1]
    refine kk H1 (hM.grow z1 o1 ?_)
    show H1[H.size]? = some (vp_cell _ (n.toNatClampNeg, .inl (fun _ => 0)))
    rw [e1, hty, hdf]
    rfl
  · cases hg
theorem bz_newq (X : Cx p s m args c cc nL own P) (hM : Wd P M s H locs) (t : Nat) {C : String} (ht : t < 5) (hty : tyT t = .object C) (hcl : Cond.classLink own index C ∈ gd_tbl) (hov : ∀ U, Nn U → va_AO C U) {n : Int32} (hg : nR M t n = some M') (hc : cells + 1 ≤ R.cells) (hs : slots + 1000 ≤ R.slots) (hd : decode cc pc = .ok (.anewarray index, 3))
    (kk : ∀ H1 : Heap, Wd P M' s H1 locs → W p l e R s m args below meth c H1 locs (cells + 1) (slots + 1000) Q (F0 m (pc + 3) ls (.ref (pB P + M.length) :: rest))) : W p l e R s m args below meth c H locs cells slots Q (F0 m pc ls (.int n :: rest)) := by
  obtain ⟨⟨hx, hb, -, hown, hts⟩, hG⟩ := X
  unfold nR at hg
  split at hg
  · next hn =>
    cases hg
    have hN : n.toNatClampNeg * 4 ≤ 536870912 := Nat.le_trans (Nat.mul_le_mul hn.2 (Nat.le_refl 4)) (by decide)
    refine W.anew hx hb hown (hts _ hcl) (hov _ hG.nn).use rfl hd rfl hn.1 hN hc (by omega) fun cA kA comp f1 f2 f3 f4 => ?_
    refine W.widen (Nat.le_refl _) (show slots + n.toNatClampNeg ≤ slots + 1000 by omega) ?_
    have hcA : cA = pC P t := by
      have h0 := tysL_at (P := P) ht
      rw [hty] at h0
      obtain ⟨kA', comp', -, -, -, h2⟩ := (hG.1.2 t _ h0).2
      exact Option.some.inj (f1.symm.trans h2)
    subst hcA
    rw [hM.1.1]
    refine kk _ (hM.grow (by rw [Array.size_push]) (fun q hq => by rw [Array.getElem?_push, if_neg (Nat.ne_of_lt hq)]) ?_)
    show (H.push _)[H.size]? = some (vp_cell _ (n.toNatClampNeg, .inr (.inr (.inr (.inr (fun j => (none : Option Nat).map (fun k => pB P + k)))))))
    rw [Array.getElem?_push_size, bz_cq]
    exact congrArg some (arrV_new _ _ _)
  · cases hg
theorem bz_copy (X : Cx p s m args c cc nL own P) (hM : Wd P M s H locs) (hlen : ls.size = nL) {b : Nat} {sp dp n : Int32} (hlk : Cond.methodLink own index arraycopyName ∈ gd_tbl) (hnat : Cond.native arraycopyName ∈ gd_tbl) (hstat : Cond.static arraycopyName ∈ gd_tbl) (hini : Cond.initialized "java/lang/System" ∈ gd_tbl) (hg : cpI M a sp b dp n = some M') (hframes : 1 ≤ R.frames) (hlocals : (rest.map fun v => v.category).sum + (nativeFrameWords "java/lang/System" "arraycopy" 5 + 11) ≤ R.locals) (hd : decode cc pc = .ok (.invokestatic index, 3))
    (kk : ∀ (H1 : Heap) (locs1 : List Loc), Wd P M' s H1 locs1 → W p l e R s m args below meth c H1 locs1 cells slots Q (F0 m (pc + 3) ls rest)) : W p l e R s m args below meth c H locs cells slots Q (F0 m pc ls (.int n :: .int dp :: .ref (pB P + b) :: .int sp :: .ref (pB P + a) :: rest)) := by
  obtain ⟨⟨hx, hb, hml, hown, hts⟩, hG⟩ := X
  obtain ⟨n0, n1, f, g, ha, hb', h1, h2, h3, h4, h5, rfl⟩ := cpI_spec hg
  have nn : ∀ z : Int32, ¬ z < 0 → z.toInt = (z.toNatClampNeg : Int) := by
    intro z hz
    have hz0 : (0 : Int) ≤ z.toInt := by
      have := Int32.not_lt.mp hz
      simpa using Int32.le_iff_toInt_le.mp this
    show z.toInt = ((z.toInt.toNat : Nat) : Int)
    omega
  intro T hT X
  have hat := wo_at (P := P) ha
  have hbt := wo_at (P := P) hb'
  have hc0 : H[pB P + a]? = some (vp_cell (pC P 0) (n0, .inl f)) := hM.1.2 a _ hat
  have hc1 : H[pB P + b]? = some (vp_cell (pC P 0) (n1, .inl g)) := hM.1.2 b _ hbt
  obtain ⟨-, k0, hk0, cm0, hkk0⟩ := (hG.1.2 0 _ rfl).1 n0 (fun j => .int (f j))
  obtain ⟨-, k1, hk1, cm1, hkk1⟩ := (hG.1.2 0 _ rfl).1 n1 (fun j => .int (g j))
  obtain ⟨vm', X', step⟩ := X.arraycopy hx hown (hts _ hlk) (hts _ hnat) (hts _ hstat) (hts _ hini) (src := pB P + a) (dst := pB P + b) (cs := vp_cell (pC P 0) (n0, .inl f)) (cd := vp_cell (pC P 0) (n1, .inl g)) (srcPos := sp) (destPos := dp) (n := n) (by rw [hT]; exact hc0) (by rw [hT]; exact hc1)
    (fun _ h => by cases h) (fun _ h => by cases h) (fun h => by cases h) (fun h => by cases h) hk0 hk1 hkk0 hkk1 (by simp [tyT, refKind]) h1 h2 h3
    (by rw [nn sp h1, nn n h3]; show ¬ _ > ((arrV _ n0 (fun j => .int (f j))).slots.size : Int); rw [arrV_size]; omega)
    (by rw [nn dp h2, nn n h3]; show ¬ _ > ((arrV _ n1 (fun j => .int (g j))).slots.size : Int); rw [arrV_size]; omega)
    (fun vm₁ _ i hi => by
      have e1 : (vp_cell (pC P 0) (n0, .inl f)).slots.getD (sp.toNatClampNeg + i) .null = .int (f (sp.toNatClampNeg + i)) := by
        show (arrV _ n0 (fun j => .int (f j))).slots.getD _ _ = _
        rw [Array.getD_eq_getD_getElem?, arrV_read _ _ (by omega)]
        rfl
      rw [e1]
      exact ⟨rfl, trivial⟩)
    (g := F0 m pc ls (.int n :: .int dp :: .ref (pB P + b) :: .int sp :: .ref (pB P + a) :: rest)) rfl (by rw [hml]; exact hlen) (rest := rest) rfl (by rw [hb]; exact hd) hframes (by show 2 * 0 + _ + _ ≤ _; omega)
  have e1 : copied (vp_cell (pC P 0) (n0, .inl f)) (vp_cell (pC P 0) (n1, .inl g)) sp dp n = vp_cell (pC P 0) (n1, .inl (va_cpy f g sp.toNatClampNeg dp.toNatClampNeg n.toNatClampNeg)) := va_copied (fun z => .int z) _ _ f g h4
  rw [e1] at X' step
  have hl : pB P + b < H.size := (Array.getElem?_eq_some_iff.mp hc1).1
  generalize hcell : vp_cell (pC P 0) (n1, .inl (va_cpy f g sp.toNatClampNeg dp.toNatClampNeg n.toNatClampNeg)) = cell at X' step
  have hheap : ((T.setVm vm').setCell (pB P + b) cell).heap = H.setIfInBounds (pB P + b) cell := by rw [← hT]; rfl
  have oq : ∀ q : Nat, q ≠ pB P + b → (H.setIfInBounds (pB P + b) cell)[q]? = H[q]? := fun q hq => by simp [Array.getElem?_setIfInBounds, Ne.symm hq]
  have hat1 : (H.setIfInBounds (pB P + b) cell)[pB P + b]? = some cell := by simp [Array.getElem?_setIfInBounds, hl]
  obtain ⟨t, a1, b1⟩ := kk _ _ ⟨Rp.set hb' (by rw [Array.size_setIfInBounds]; exact hM.1.1) (hM.1.2.set (wo_D (P := P)) hbt (by show _ = some (vp_cell _ _); rw [hat1, ← hcell]; rfl) oq), ⟨by rw [Array.size_setIfInBounds]; exact hM.2.1, fun q g1 g2 => by
      rw [oq q (fun e => g2 (by rw [e]; exact Nat.le_add_right _ _))]
      exact hM.2.2.1 q g1 g2, fun q hq => by
      rcases List.mem_append.mp hq with h | h
      · exact hM.2.2.2 q h
      · obtain ⟨z, -, hz⟩ := List.mem_map.mp h
        rw [← hz]
        exact Nat.le_add_right _ _⟩⟩ _ hheap X'
  exact ⟨t, step t a1, b1⟩
/-! calls -/
theorem Pp.blind {P : PT} {M : Mm} {av : List Value} : FrameBlind (va_Pc av (Pp P M)) := fun _ _ _ _ h => ⟨h.1, h.2.1.blind, h.2.2⟩
theorem Pp.now (hG : Gs P s) (hM : Wd P M s H locs) {av : List Value} (U : State) (hU : U.heap = H) (hW : s.WarmedH U.vm) : va_Pc av (Pp P M) av.toArray U := ⟨rfl, hG.call hM.2 hU hW, by rw [hU]; exact hM.1⟩
theorem bz_go {mc ms : Nat} {ov : Option Value} {av : Array Value} {st0 : List Value} (hr : va_Run p l e R s m args below meth c H locs cells slots mc ms (F0 m pc ls st0) rest (Qp P ov M' av) (fun q => pB P ≤ q)) (hG : Gs P s) (hM : Wd P M s H locs)
    (kk : ∀ (H1 : Heap) (locs1 : List Loc), Wd P M' s H1 locs1 → W p l e R s m args below meth c H1 locs1 (cells + mc) (slots + ms) Q (F0 m (pc + 3) ls (ov.toList ++ rest))) : W p l e R s m args below meth c H locs cells slots Q (F0 m pc ls st0) := by
  intro T hT X
  obtain ⟨v, st₀, t, T', L, h0, X', hL, e1, e2, ⟨hv, hR, hz, hk⟩, st⟩ := hr T hT X
  cases hv
  rw [h0] at hz hk
  obtain ⟨t2, a1, b1⟩ := kk T'.heap (locs ++ L) ⟨by rw [e1]; exact hR, ⟨Nat.le_trans hM.2.1 (by rw [e1]; exact hz), fun q h1 h2 => by rw [e1, hk q (Nat.lt_of_lt_of_le h1 hM.2.1) h2]; exact hM.2.2.1 q h1 h2, fun q hq => by
      rcases List.mem_append.mp hq with h | h
      · exact hM.2.2.2 q h
      · exact hL q h⟩⟩ T' rfl X'
  exact ⟨t2, st t2 a1, b1⟩
theorem tbl_in : GoodIn gd_tbl gd_tbl := fun w h => ⟨h, good_of_word (List.mem_filter.mp h).2⟩
theorem tbl_code {y : MethodName} {bytes : ByteArray} {n : Nat} {ret : Option FieldType} (h : Cond.code y bytes n ret ∈ gd_tbl) : GoodIn gd_tbl (Cond.code y bytes n ret :: gd_tbl) := fun w hw => (List.mem_cons.mp hw).elim (fun e => e ▸ tbl_in _ h) (tbl_in w)
/-- what the tables say of a call: of an instance's method, a static one, a constructor; n arguments -/
def KV (own : String) (index : Nat) (C : String) (y : MethodName) (bytes : ByteArray) (maxL : Nat) (ret : Option FieldType) (n : Nat) : Prop := Cond.code y bytes maxL ret ∈ gd_tbl ∧ Cond.methodLink own index y ∈ gd_tbl ∧ Cond.instanceMethod y ∈ gd_tbl ∧ Cond.selects C y y ∈ gd_tbl ∧ Cond.initialized C ∈ gd_tbl ∧ (y.cls = C ∧ y.cls ≠ "java/lang/invoke/MethodHandle" ∧ y.cls ≠ "java/lang/invoke/VarHandle" ∧ (parseMethodDescriptor y.desc).map (fun d => d.parameters.length) = some n)
def KS (own : String) (index : Nat) (y : MethodName) (bytes : ByteArray) (maxL : Nat) (ret : Option FieldType) (n : Nat) : Prop := Cond.code y bytes maxL ret ∈ gd_tbl ∧ Cond.methodLink own index y ∈ gd_tbl ∧ Cond.static y ∈ gd_tbl ∧ Cond.initialized y.cls ∈ gd_tbl ∧ (y.cls ≠ "java/lang/invoke/MethodHandle" ∧ y.cls ≠ "java/lang/invoke/VarHandle" ∧ (parseMethodDescriptor y.desc).map (fun d => d.parameters.length) = some n)
def KI (own : String) (index : Nat) (y : MethodName) (bytes : ByteArray) (maxL : Nat) (n : Nat) : Prop := Cond.code y bytes maxL none ∈ gd_tbl ∧ (Cond.methodLink own index y ∈ gd_tbl ∨ ∃ host, Cond.methodLinkNest own index y host ∈ nw_tbl) ∧ Cond.instanceMethod y ∈ gd_tbl ∧ Cond.initialized y.cls ∈ gd_tbl ∧ y.name = "<init>" ∧ (y.cls ≠ "java/lang/invoke/MethodHandle" ∧ y.cls ≠ "java/lang/invoke/VarHandle" ∧ (parseMethodDescriptor y.desc).map (fun d => d.parameters.length) = some n)
theorem wsV_in {own : String} {index : Nat} {C : String} {y : MethodName} {bytes : ByteArray} {maxL : Nat} {ret : Option FieldType} {n : Nat} (h : KV own index C y bytes maxL ret n) : GoodIn gd_tbl (wsV own index C y (Cond.code y bytes maxL ret :: gd_tbl)) := by
  obtain ⟨h1, h2, h3, h4, h5, -⟩ := h
  intro w hw
  rcases List.mem_append.mp hw with h | h
  · simp only [List.mem_cons, List.not_mem_nil, or_false] at h
    rcases h with rfl | rfl | rfl | rfl
    · exact tbl_in _ h2
    · exact tbl_in _ h3
    · exact tbl_in _ h4
    · exact tbl_in _ h5
  · exact tbl_code h1 w h
variable {y : MethodName} {bytes : ByteArray} {maxL d mc n : Nat} {ret : Option FieldType} {ov : Option Value} {C : String} {fs : List Value} {T : u_T} {N : Nat}
theorem bz_callV (X : Cx p s m args c cc nL own P) (hM : Wd P M s H locs) (hlen : ls.size = nL) (hK : KV own index C y bytes maxL ret n) {b : Nat} {As : List Value} (hC : Ct l y bytes maxL ret d mc P (.ref (pB P + b) :: As) M ov M') (hcl : vwCl[ci]? = some (C, T, N)) (hb : M[b]? = some (.inr (ci, fs))) (hn : As.length = n) {st0 : List Value} (hst : st0 = As.reverse ++ .ref (pB P + b) :: rest) (hR : d + 1 ≤ R.frames ∧ 8 + (maxL + 11) + 41 * d ≤ R.locals) (hrs : (rest.map fun v => v.category).sum ≤ 8) (hf : cells + mc ≤ R.cells ∧ slots + 1000 * mc ≤ R.slots) (hd : decode cc pc = .ok (.invokevirtual index, 3))
    (kk : ∀ (H1 : Heap) (locs1 : List Loc), Wd P M' s H1 locs1 → W p l e R s m args below meth c H1 locs1 (cells + mc) (slots + 1000 * mc) Q (F0 m (pc + 3) ls (ov.toList ++ rest))) : W p l e R s m args below meth c H locs cells slots Q (F0 m pc ls st0) := by
  refine bz_go (va_runV (As := As) (rest := rest) X.1 hC (cwV n X.1.2.2.2.2 (wsV_in hK) rfl rfl rfl hK.2.2.2.2.2 hR) ⟨Pp.blind, ?_, fun U hU hW => Pp.now X.2 hM U hU hW⟩ rfl hn hlen hst (lv_room hrs) hd hf) X.2 hM kk
  exact va_recv X.2.1 hM.1.2 (q0 := b) hcl (wo_at hb)
theorem bz_callS (X : Cx p s m args c cc nL own P) (hM : Wd P M s H locs) (hlen : ls.size = nL) (hK : KS own index y bytes maxL ret n) {As : List Value} (hC : Ct l y bytes maxL ret d mc P As M ov M') (hn : As.length = n) {st0 : List Value} (hst : st0 = As.reverse ++ rest) (hR : d + 1 ≤ R.frames ∧ 8 + (maxL + 11) + 41 * d ≤ R.locals) (hrs : (rest.map fun v => v.category).sum ≤ 8) (hf : cells + mc ≤ R.cells ∧ slots + 1000 * mc ≤ R.slots) (hd : decode cc pc = .ok (.invokestatic index, 3))
    (kk : ∀ (H1 : Heap) (locs1 : List Loc), Wd P M' s H1 locs1 → W p l e R s m args below meth c H1 locs1 (cells + mc) (slots + 1000 * mc) Q (F0 m (pc + 3) ls (ov.toList ++ rest))) : W p l e R s m args below meth c H locs cells slots Q (F0 m pc ls st0) := by
  obtain ⟨h1, h2, h3, h4, h5⟩ := hK
  exact bz_go (va_runS (As := As) (rest := rest) X.1 hC ⟨callB_of n X.1.2.2.2.2 (tbl_code h1) rfl rfl rfl (X.1.2.2.2.2 _ h4) (X.1.2.2.2.2 _ h2) h5 hR, X.1.2.2.2.2 _ h3⟩ ⟨Pp.blind, fun U hU hW => Pp.now X.2 hM U hU hW⟩ rfl hn hlen hst (lv_room hrs) hd hf) X.2 hM kk
theorem bz_callI (X : Cx p s m args c cc nL own P) (hM : Wd P M s H locs) (hlen : ls.size = nL) (hK : KI own index y bytes maxL n) {b : Nat} {As : List Value} (hC : Ct l y bytes maxL none d mc P (.ref (pB P + b) :: As) M none M') (hn : As.length = n) {st0 : List Value} (hst : st0 = As.reverse ++ .ref (pB P + b) :: rest) (hR : d + 1 ≤ R.frames ∧ 8 + (maxL + 11) + 41 * d ≤ R.locals) (hrs : (rest.map fun v => v.category).sum ≤ 8) (hf : cells + mc ≤ R.cells ∧ slots + 1000 * mc ≤ R.slots) (hd : decode cc pc = .ok (.invokespecial index, 3))
    (kk : ∀ (H1 : Heap) (locs1 : List Loc), Wd P M' s H1 locs1 → W p l e R s m args below meth c H1 locs1 (cells + mc) (slots + 1000 * mc) Q (F0 m (pc + 3) ls rest)) : W p l e R s m args below meth c H locs cells slots Q (F0 m pc ls st0) := by
  obtain ⟨h1, h2, h3, h4, h5, h6⟩ := hK
  have hts := X.1.2.2.2.2
  rcases h2 with h2 | ⟨host, h2⟩
  · exact bz_go (ov := none) (va_runI (As := As) (rest := rest) X.1 hC (cwI n hts (tbl_code h1) rfl rfl rfl (hts _ h4) (hts _ h2) (hts _ h3) h5 h6 hR) ⟨Pp.blind, fun U hU hW => Pp.now X.2 hM U hU hW⟩ rfl hn hlen hst (lv_room hrs) hd hf) X.2 hM kk
  · exact bz_go (ov := none) (va_runIN (As := As) (rest := rest) X.1 hC ⟨va_cnB n hts (tbl_code h1) rfl rfl rfl (X.2.nn.1 _ h2) (hts _ h4) h6 hR, h5, hts _ h3⟩ ⟨Pp.blind, fun U hU hW => Pp.now X.2 hM U hU hW⟩ rfl hn hlen hst (lv_room hrs) hd hf) X.2 hM kk
/-! ends -/
theorem Qp.mk (hM : Wd P M s H locs) (ov : Option Value) (t : State) (ht : t.heap = H) : Qp P ov M args s (.returned ov) t := ⟨rfl, by rw [ht]; exact hM.1, hM.2.F ht⟩
theorem bz_iret (X : Cx p s m args c cc nL own P) (hM : Wd P M s H locs) (hr : meth.sig.returnType = some .int) (hlocks : meth.locks = false) {v : Int32} (hd : decode cc pc = .ok (.ireturn, 1)) {ms : Nat} (hc : cells ≤ mc) (hs : slots ≤ ms) : W p l e R s m args below meth c H locs cells slots (MQ below (Qp P (some (.int v)) M) args s mc ms (fun q => pB P ≤ q)) (F0 m pc ls [.int v]) :=
  W.widen hc hs (W.iret X.1.1 X.1.2.1 hr (fun t ht _ => Qp.mk hM _ t ht) hM.2.2.2 hd hlocks)
theorem bz_zret (X : Cx p s m args c cc nL own P) (hM : Wd P M s H locs) (hr : meth.sig.returnType = some .boolean) (hlocks : meth.locks = false) {v : Int32} (hv : v = 0 ∨ v = 1) (hd : decode cc pc = .ok (.ireturn, 1)) {ms : Nat} (hc : cells ≤ mc) (hs : slots ≤ ms) : W p l e R s m args below meth c H locs cells slots (MQ below (Qp P (some (.int v)) M) args s mc ms (fun q => pB P ≤ q)) (F0 m pc ls [.int v]) :=
  W.widen hc hs (W.zret X.1.1 X.1.2.1 hr (by rcases hv with rfl | rfl <;> rfl) (fun t ht _ => Qp.mk hM _ t ht) hM.2.2.2 hd hlocks)
theorem bz_lret (X : Cx p s m args c cc nL own P) (hM : Wd P M s H locs) (hr : meth.sig.returnType = some .long) (hlocks : meth.locks = false) {v : Int64} (hd : decode cc pc = .ok (.lreturn, 1)) {ms : Nat} (hc : cells ≤ mc) (hs : slots ≤ ms) : W p l e R s m args below meth c H locs cells slots (MQ below (Qp P (some (.long v)) M) args s mc ms (fun q => pB P ≤ q)) (F0 m pc ls [.long v]) :=
  W.widen hc hs (W.lret X.1.1 X.1.2.1 hr (fun t ht _ => Qp.mk hM _ t ht) hM.2.2.2 hd hlocks)
theorem bz_vret (X : Cx p s m args c cc nL own P) (hM : Wd P M s H locs) (hr : meth.sig.returnType = none) (hlocks : meth.locks = false) (hd : decode cc pc = .ok (.return_, 1)) {ms : Nat} (hc : cells ≤ mc) (hs : slots ≤ ms) : W p l e R s m args below meth c H locs cells slots (MQ below (Qp P none M) args s mc ms (fun q => pB P ≤ q)) (F0 m pc ls []) :=
  W.widen hc hs (W.vret X.1.1 X.1.2.1 hr (fun t ht _ => Qp.mk hM _ t ht) hM.2.2.2 hd hlocks)
theorem bz_aret (X : Cx p s m args c cc nL own P) (hM : Wd P M s H locs) {C : String} (hr : meth.sig.returnType = some (.object C)) (hlocks : meth.locks = false) {r : Option Nat} (hd : decode cc pc = .ok (.areturn, 1)) {ms : Nat} (hc : cells ≤ mc) (hs : slots ≤ ms) : W p l e R s m args below meth c H locs cells slots (MQ below (Qp P (some (rO P r)) M) args s mc ms (fun q => pB P ≤ q)) (F0 m pc ls [rO P r]) :=
  W.widen hc hs (W.aret X.1.1 X.1.2.1 hr (Or.inl ⟨C, rfl⟩) (by cases r <;> simp [rO, va_rf]) (fun t ht _ => Qp.mk hM _ t ht) hM.2.2.2 hd hlocks)
theorem bz_sret (X : Cx p s m args c cc nL own P) (hM : Wd P M s H locs) {C : String} (hr : meth.sig.returnType = some (.object C)) (hlocks : meth.locks = false) {j : Nat} (hd : decode cc pc = .ok (.areturn, 1)) {ms : Nat} (hc : cells ≤ mc) (hs : slots ≤ ms) : W p l e R s m args below meth c H locs cells slots (MQ below (Qp P (some (.ref (pK P j))) M) args s mc ms (fun q => pB P ≤ q)) (F0 m pc ls [.ref (pK P j)]) :=
  W.widen hc hs (W.aret X.1.1 X.1.2.1 hr (Or.inl ⟨C, rfl⟩) (Or.inr ⟨_, rfl⟩) (fun t ht _ => Qp.mk hM _ t ht) hM.2.2.2 hd hlocks)
end BC
