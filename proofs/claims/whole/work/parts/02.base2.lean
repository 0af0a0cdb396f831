/-! ROWS OVER M: an instruction each -/
def CF (ci : Nat) (C : String) (T : u_T) (N : Nat) (ty : Nat → FieldType) : Prop := vwCl[ci]? = some (C, T, N) ∧ (∀ w ∈ u_ws C T N, w ∈ gd_tbl) ∧ (∀ k, k < N → parseFieldDescriptor (T k).2.2.1 = some (ty k)) ∧ (∀ a, a < N → ∀ b, b < N → a ≠ b → (T a).2.1 ≠ (T b).2.1) ∧ N ≤ 1000
def LK (own : String) (index : Nat) (a b c : String) : Prop := Cond.fieldLink own index a b c ∈ gd_tbl ∨ ∃ host, Cond.fieldLinkNest own index a b c host ∈ nw_tbl
/-- the field that (own, index) names: number k of class ci, of type ty -/
def FL (own : String) (index ci k : Nat) (ty : FieldType) : Prop := ∃ (C : String) (T : u_T) (N : Nat) (tys : Nat → FieldType), CF ci C T N tys ∧ k < N ∧ LK own index (T k).1 (T k).2.1 (T k).2.2.1 ∧ tys k = ty
/-- the same, to be written; fin: it is final -/
def FP (own : String) (index ci k : Nat) (ty : FieldType) (fin : Bool) : Prop := ∃ (C : String) (T : u_T) (N : Nat) (tys : Nat → FieldType), CF ci C T N tys ∧ k < N ∧ LK own index (T k).1 (T k).2.1 (T k).2.2.1 ∧ tys k = ty ∧ (T k).2.2.2 = fin ∧ (fin = true → (T k).1 = own ∧ Cond.fieldLink own index (T k).1 (T k).2.1 (T k).2.2.1 ∈ gd_tbl)
theorem gF_spec {M : Mm} {ci a k : Nat} {v : Value} (h : gF M ci a k = some v) : ∃ fs, M[a]? = some (.inr (ci, fs)) ∧ fs[k]? = some v := by
  unfold gF at h
  split at h
  · next o ho =>
    split at h
    · next hc => exact ⟨o.2, by rw [ho, ← hc], h⟩
    · cases h
  · cases h
theorem gI_spec {M : Mm} {ci a k : Nat} {x : Int32} (h : gI M ci a k = some x) : gF M ci a k = some (.int x) := by
  unfold gI at h
  split at h
  · next y hy => cases h; exact hy
  · cases h
theorem gR_spec {M : Mm} {ci a k : Nat} {r : Option Nat} (h : gR M ci a k = some r) : gF M ci a k = some (vO r) := by
  unfold gR at h
  split at h
  · next y hy => cases h; exact hy
  · next hy => cases h; exact hy
  · cases h
theorem gS_spec {M : Mm} {ci a k j : Nat} (h : gS M ci a k = some j) : ∃ u : UInt32, u.toNat = j ∧ gF M ci a k = some (.float u) := by
  unfold gS at h
  split at h
  · next u hu => cases h; exact ⟨u, rfl, hu⟩
  · cases h
theorem rv_O {P : PT} {r : Option Nat} : rv P (vO r) = rO P r := by cases r <;> rfl
theorem pF_spec {M M' : Mm} {ci a k : Nat} {v : Value} (h : pF M ci a k v = some M') : ∃ fs, M[a]? = some (.inr (ci, fs)) ∧ k < fs.length ∧ M' = M.set a (.inr (ci, fs.set k v)) := by
  unfold pF at h
  split at h
  · next o ho =>
    split at h
    · next hc =>
      obtain ⟨c1, c2⟩ := hc
      cases h
      exact ⟨o.2, by rw [ho, ← c1], c2, by rw [c1]⟩
    · cases h
  · cases h
theorem aI_spec {M : Mm} {t a : Nat} {i x : Int32} (h : aI M t a i = some x) : ∃ n f, M[a]? = some (.inl (t, n, .inl f)) ∧ vp_in i n ∧ x = f i.toNatClampNeg := by
  unfold aI at h
  split at h
  · next t0 n f ho =>
    split at h
    · next hc =>
      obtain ⟨rfl, c2⟩ := hc
      cases h
      exact ⟨n, f, ho, c2, rfl⟩
    · cases h
  · cases h
theorem sI_spec {M M' : Mm} {t a : Nat} {i x : Int32} (h : sI M t a i x = some M') : ∃ n f, M[a]? = some (.inl (t, n, .inl f)) ∧ vp_in i n ∧ M' = M.set a (.inl (t, n, .inl (upd f i.toNatClampNeg x))) := by
  unfold sI at h
  split at h
  · next t0 n f ho =>
    split at h
    · next hc =>
      obtain ⟨rfl, c2⟩ := hc
      cases h
      exact ⟨n, f, ho, c2, rfl⟩
    · cases h
  · cases h
theorem aR_spec {M : Mm} {t a : Nat} {i : Int32} {r : Option Nat} (h : aR M t a i = some r) : ∃ n f, M[a]? = some (.inl (t, n, .inr (.inr (.inr (.inr f))))) ∧ vp_in i n ∧ r = f i.toNatClampNeg := by
  unfold aR at h
  split at h
  · next t0 n f ho =>
    split at h
    · next hc =>
      obtain ⟨rfl, c2⟩ := hc
      cases h
      exact ⟨n, f, ho, c2, rfl⟩
    · cases h
  · cases h
theorem sR_spec {M M' : Mm} {t ci a : Nat} {i : Int32} {r : Option Nat} (h : sR M t ci a i r = some M') : ∃ n f, M[a]? = some (.inl (t, n, .inr (.inr (.inr (.inr f))))) ∧ vp_in i n ∧ isO M ci r = true ∧ M' = M.set a (.inl (t, n, .inr (.inr (.inr (.inr (va_up f i.toNatClampNeg r)))))) := by
  unfold sR at h
  split at h
  · next t0 n f ho =>
    split at h
    · next hc =>
      obtain ⟨rfl, c2, c3⟩ := hc
      cases h
      exact ⟨n, f, ho, c2, c3, rfl⟩
    · cases h
  · cases h
theorem cpI_spec {M M' : Mm} {a b : Nat} {sp dp n : Int32} (h : cpI M a sp b dp n = some M') : ∃ n0 n1 f g, M[a]? = some (.inl (0, n0, .inl f)) ∧ M[b]? = some (.inl (0, n1, .inl g)) ∧ ¬ sp < 0 ∧ ¬ dp < 0 ∧ ¬ n < 0 ∧ sp.toNatClampNeg + n.toNatClampNeg ≤ n0 ∧ dp.toNatClampNeg + n.toNatClampNeg ≤ n1 ∧ M' = M.set b (.inl (0, n1, .inl (va_cpy f g sp.toNatClampNeg dp.toNatClampNeg n.toNatClampNeg))) := by
  unfold cpI at h
  split at h
  · next n0 f n1 g ha hb =>
    split at h
    · next hc =>
      obtain ⟨c1, c2, c3, c4, c5⟩ := hc
      cases h
      exact ⟨n0, n1, f, g, ha, hb, c1, c2, c3, c4, c5, rfl⟩
    · cases h
  · cases h
theorem aL_spec {M : Mm} {a : Nat} {x : Int32} (h : aL M a = some x) : ∃ t y, M[a]? = some (.inl (t, y)) ∧ t < 5 ∧ Int32.ofNat y.1 = x := by
  unfold aL at h
  split at h
  · next o ho =>
    split at h
    · next hc => cases h; exact ⟨o.1, o.2, ho, hc, rfl⟩
    · cases h
  · cases h
theorem rA_len {P : PT} {x : vp_A} : (rA P x).1 = x.1 := by
  obtain ⟨n, f⟩ := x
  rcases f with f | f | f | f | f <;> rfl
theorem Rp.set {P : PT} {M : Mm} {a : Nat} {e0 e : va_E} {H1 : Heap} (h0 : M[a]? = some e0) (hz : H1.size = pB P + M.length) (hP : va_P (pD P) vwCl ((wo P M).set a (pB P + a, rl P e)) H1) : Rp P (M.set a e) H1 :=
  ⟨by rw [List.length_set]; exact hz, by rw [← wo_set]; exact hP⟩
theorem bz_ci (cA : ClassId) (n : Nat) (f : Nat → Int32) : vp_cell cA (n, .inl f) = arrV cA n (fun j => .int (f j)) := rfl
theorem bz_cq (cA : ClassId) (n : Nat) (f : Nat → Option Nat) : vp_cell cA (n, .inr (.inr (.inr (.inr f)))) = arrV cA n (fun j => va_rf (f j)) := rfl
theorem bz_upd (f : Nat → Int32) (i : Nat) (x : Int32) : updV (fun j => Value.int (f j)) i (.int x) = fun j => .int (upd f i x j) := by
  funext q
  by_cases hq : q = i
  · subst hq
    simp [updV, upd]
  · simp [updV, upd, hq]
theorem bz_updq (P : PT) (f : Nat → Option Nat) (i : Nat) (r : Option Nat) : updV (fun j => va_rf ((f j).map (fun k => pB P + k))) i (rO P r) = fun j => va_rf ((va_up f i r j).map (fun k => pB P + k)) := by
  funext q
  by_cases hq : q = i
  · subst hq
    simp [updV, va_up, rO]
  · simp [updV, va_up, hq]
section BZ
variable {p : Program} {l : Launch} {e : Env} {R : Room} {s : State} {m : MethodId} {args : Array Value} {below : List Frame} {meth : Method} {c : Code} {H : Heap} {locs : List Loc} {cells slots : Nat} {Q : State → Prop}
variable {cc : ByteArray} {pc nL : Nat} {ls : Array Slot} {rest : List Value} {own : String} {P : PT} {M M' : Mm} {index ci a k : Nat}
theorem bz_get (X : Cx p s m args c cc nL own P) (hM : Wd P M s H locs) {ty : FieldType} (hF : FL own index ci k ty) {v : Value} (hg : gF M ci a k = some v) (hd : decode cc pc = .ok (.getfield index, 3))
    (kk : W p l e R s m args below meth c H locs cells slots Q (F0 m (pc + 3) ls (rv P v :: rest))) : W p l e R s m args below meth c H locs cells slots Q (F0 m pc ls (.ref (pB P + a) :: rest)) := by
  obtain ⟨⟨hx, hb, -, hown, hts⟩, hG⟩ := X
  obtain ⟨C, T, N, tys, ⟨c1, c2, -, -, -⟩, hk, hl, -⟩ := hF
  obtain ⟨fs, h1, h2⟩ := gF_spec hg
  have hat := wo_at (P := P) h1
  have hv : (fs.map (rv P))[k]? = some (rv P v) := by rw [List.getElem?_map, h2]; rfl
  rcases hl with hl | ⟨host, hl⟩
  · exact va_get (D := pD P) (C := C) (T := T) (N := N) hx hb hts c2 hown hG.1 hM.1.2 a hat c1 k hk (hts _ hl) (fun _ h => h) hv hd kk
  · exact va_getN (D := pD P) (C := C) (T := T) (N := N) hx hb hts c2 hown hG.1 hM.1.2 a hat c1 k hk (va_Nw.use rfl (hG.nn.1 _ hl)) (fun _ h => h) hv hd kk
theorem bz_getI (X : Cx p s m args c cc nL own P) (hM : Wd P M s H locs) {ty : FieldType} (hF : FL own index ci k ty) {x : Int32} (hg : gI M ci a k = some x) (hd : decode cc pc = .ok (.getfield index, 3))
    (kk : W p l e R s m args below meth c H locs cells slots Q (F0 m (pc + 3) ls (.int x :: rest))) : W p l e R s m args below meth c H locs cells slots Q (F0 m pc ls (.ref (pB P + a) :: rest)) := bz_get X hM hF (gI_spec hg) hd kk
theorem bz_getR (X : Cx p s m args c cc nL own P) (hM : Wd P M s H locs) {ty : FieldType} (hF : FL own index ci k ty) {r : Option Nat} (hg : gR M ci a k = some r) (hd : decode cc pc = .ok (.getfield index, 3))
    (kk : W p l e R s m args below meth c H locs cells slots Q (F0 m (pc + 3) ls (rO P r :: rest))) : W p l e R s m args below meth c H locs cells slots Q (F0 m pc ls (.ref (pB P + a) :: rest)) := bz_get X hM hF (gR_spec hg) hd (by rw [rv_O]; exact kk)
theorem bz_getS (X : Cx p s m args c cc nL own P) (hM : Wd P M s H locs) {ty : FieldType} (hF : FL own index ci k ty) {j : Nat} (hg : gS M ci a k = some j) (hd : decode cc pc = .ok (.getfield index, 3))
    (kk : W p l e R s m args below meth c H locs cells slots Q (F0 m (pc + 3) ls (.ref (pK P j) :: rest))) : W p l e R s m args below meth c H locs cells slots Q (F0 m pc ls (.ref (pB P + a) :: rest)) := by
  obtain ⟨u, rfl, h⟩ := gS_spec hg
  exact bz_get X hM hF h hd kk
theorem bz_put (X : Cx p s m args c cc nL own P) (hM : Wd P M s H locs) {ty : FieldType} {fin : Bool} (hF : FP own index ci k ty fin) (hfin : fin = false ∨ meth.name = "<init>") {v : Value} (hn : narrow ty (rv P v) = rv P v) (hfit : fits ty (rv P v) = true) (hg : pF M ci a k v = some M') (hd : decode cc pc = .ok (.putfield index, 3))
    (kk : ∀ (H1 : Heap) (locs1 : List Loc), Wd P M' s H1 locs1 → W p l e R s m args below meth c H1 locs1 cells slots Q (F0 m (pc + 3) ls rest)) : W p l e R s m args below meth c H locs cells slots Q (F0 m pc ls (rv P v :: .ref (pB P + a) :: rest)) := by
  obtain ⟨⟨hx, hb, -, hown, hts⟩, hG⟩ := X
  obtain ⟨C, T, N, tys, ⟨c1, c2, c3, c4, -⟩, hk, hl, t1, t2, t3⟩ := hF
  obtain ⟨fs, h1, h2, rfl⟩ := pF_spec hg
  have hat := wo_at (P := P) h1
  have hk1 : k < (fs.map (rv P)).length := by rw [List.length_map]; exact h2
  have hpd : parseFieldDescriptor (T k).2.2.1 = some ty := by rw [c3 k hk, t1]
  have hap := va_apart (own := own) hts c2 tys c3 c4 hG.1 c1
  obtain ⟨r, hr1, cell, q1, q2, q3, q4⟩ := hM.1.2 a _ hat
  have hr : r = (C, T, N) := Option.some.inj (hr1.symm.trans c1)
  subst hr
  obtain ⟨hSl, hfc, kC, hkC, hkind⟩ := hG.1.1 ci _ c1
  obtain ⟨cf, kf, fi, f, hi, hsl⟩ := hSl k hk
  have hlay := hts _ (c2 _ (u_in_lay hk))
  unfold u_lay at hlay
  have hst := (u_facts hfc hkC (u_lays hts c2 hk) hi).1
  have hlt : f.slot < cell.slots.size := by rw [hsl]; exact k2_hasslot (q4 k hk)
  have go : ∀ H' : Heap, H'[pB P + a]? = some (cell.setSlot f.slot (rv P v)) → H'.size = H.size → (∀ q, q ≠ pB P + a → H'[q]? = H[q]?) → W p l e R s m args below meth c H' (locs ++ [⟨pB P + a, f.slot⟩]) cells slots Q (F0 m (pc + 3) ls rest) := by
    intro H' e1 e2 e3
    refine kk H' _ ⟨Rp.set h1 (e2.trans hM.1.1) ?_, hM.2.put e2 e3 (Nat.le_add_right _ _)⟩
    have e9 : rl P (.inr (ci, fs.set k v)) = .inr (ci, (fs.map (rv P)).set k (rv P v)) := by
      show Sum.inr (ci, (fs.set k v).map (rv P)) = _
      rw [List.map_set]
    rw [e9]
    rw [hsl] at e1
    exact hM.1.2.set (wo_D (P := P)) hat ⟨_, c1, t_OB.to (V := updV (vp_V (fs.map (rv P))) k (rv P v)) ⟨_, e1, q2, q3, t_set q4 hap hk (rv P v)⟩ (fun j _ => vp_updV_set hk1 (rv P v) j)⟩ e3
  cases fin with
  | false =>
    rw [if_neg (by rw [t2]; decide)] at hlay
    have h6 := u_store hfc hkC hkind hlay hi hpd hn hfit
    rcases hl with hl | ⟨host, hl⟩
    · exact W.putK hx hb (f := f) ⟨hown, hts _ hl, ⟨_, _, _, hi⟩, hst⟩ (by rw [q2]; exact h6) q1 q3 hlt rfl rfl hd go
    · exact va_WputK hx hb (f := f) hown (va_Nw.use rfl (hG.nn.1 _ hl)) hi hst (by rw [q2]; exact h6) q1 q3 hlt rfl rfl hd go
  | true =>
    rw [if_pos t2] at hlay
    have hin2 : meth.name = "<init>" := hfin.elim (fun h => by cases h) id
    have hcf : m.cls = cf := by
      obtain ⟨_, _, c', _, _, _, -, -, hf', -, -, -, hown2, -⟩ := Cond.laysFinal_spec hlay
      have e1 : c' = cf := by have := hi.symm.trans hf'; simp at this; exact this.1.symm
      rw [(t3 rfl).1] at hown2
      rw [← e1]; exact Option.some.inj (hown.symm.trans hown2)
    have h6 := u_fits hfc hkC hkind (Or.inr hlay) hi hpd hn hfit
    exact W.putFinK hx hb hown (hts _ (t3 rfl).2) hi hst hcf hin2 (by rw [q2]; exact h6) q1 q3 hlt rfl rfl hd go
/-- an int comes to a field -/
theorem bz_putI (X : Cx p s m args c cc nL own P) (hM : Wd P M s H locs) {fin : Bool} (hF : FP own index ci k .int fin) (hfin : fin = false ∨ meth.name = "<init>") {x : Int32} (hg : pF M ci a k (.int x) = some M') (hd : decode cc pc = .ok (.putfield index, 3))
    (kk : ∀ (H1 : Heap) (locs1 : List Loc), Wd P M' s H1 locs1 → W p l e R s m args below meth c H1 locs1 cells slots Q (F0 m (pc + 3) ls rest)) : W p l e R s m args below meth c H locs cells slots Q (F0 m pc ls (.int x :: .ref (pB P + a) :: rest)) := bz_put X hM hF hfin (v := .int x) rfl rfl hg hd kk
theorem bz_putZ (X : Cx p s m args c cc nL own P) (hM : Wd P M s H locs) {fin : Bool} (hF : FP own index ci k .boolean fin) (hfin : fin = false ∨ meth.name = "<init>") {x : Int32} (hz : x = 0 ∨ x = 1) (hg : pF M ci a k (.int x) = some M') (hd : decode cc pc = .ok (.putfield index, 3))
    (kk : ∀ (H1 : Heap) (locs1 : List Loc), Wd P M' s H1 locs1 → W p l e R s m args below meth c H1 locs1 cells slots Q (F0 m (pc + 3) ls rest)) : W p l e R s m args below meth c H locs cells slots Q (F0 m pc ls (.int x :: .ref (pB P + a) :: rest)) := bz_put X hM hF hfin (v := .int x) (by rcases hz with rfl | rfl <;> rfl) (by rcases hz with rfl | rfl <;> rfl) hg hd kk
theorem bz_putR (X : Cx p s m args c cc nL own P) (hM : Wd P M s H locs) {fin : Bool} {ty : FieldType} (hF : FP own index ci k ty fin) (hty : ty.isReference = true) (hfin : fin = false ∨ meth.name = "<init>") {r : Option Nat} (hg : pF M ci a k (vO r) = some M') (hd : decode cc pc = .ok (.putfield index, 3))
    (kk : ∀ (H1 : Heap) (locs1 : List Loc), Wd P M' s H1 locs1 → W p l e R s m args below meth c H1 locs1 cells slots Q (F0 m (pc + 3) ls rest)) : W p l e R s m args below meth c H locs cells slots Q (F0 m pc ls (rO P r :: .ref (pB P + a) :: rest)) := by
  rw [← rv_O]
  refine bz_put X hM hF hfin (v := vO r) ?_ ?_ hg hd kk <;> (cases r <;> cases ty <;> first | rfl | cases hty)
theorem bz_putS (X : Cx p s m args c cc nL own P) (hM : Wd P M s H locs) {fin : Bool} {ty : FieldType} (hF : FP own index ci k ty fin) (hty : ty.isReference = true) (hfin : fin = false ∨ meth.name = "<init>") {j : Nat} (hj : j < 11) (hg : pF M ci a k (.float (UInt32.ofNat j)) = some M') (hd : decode cc pc = .ok (.putfield index, 3))
    (kk : ∀ (H1 : Heap) (locs1 : List Loc), Wd P M' s H1 locs1 → W p l e R s m args below meth c H1 locs1 cells slots Q (F0 m (pc + 3) ls rest)) : W p l e R s m args below meth c H locs cells slots Q (F0 m pc ls (.ref (pK P j) :: .ref (pB P + a) :: rest)) := by
  have e : rv P (.float (UInt32.ofNat j)) = .ref (pK P j) := by
    show Value.ref (pK P (UInt32.ofNat j).toNat) = _
    rw [UInt32.toNat_ofNat_of_lt' (Nat.lt_trans hj (by decide))]
  rw [← e]
  refine bz_put X hM hF hfin (v := .float (UInt32.ofNat j)) ?_ ?_ hg hd kk <;> (rw [e]; cases ty <;> first | rfl | cases hty)
theorem bz_alen (X : Cx p s m args c cc nL own P) (hM : Wd P M s H locs) {x : Int32} (hg : aL M a = some x) (hd : decode cc pc = .ok (.arraylength, 1))
    (kk : W p l e R s m args below meth c H locs cells slots Q (F0 m (pc + 1) ls (.int x :: rest))) : W p l e R s m args below meth c H locs cells slots Q (F0 m pc ls (.ref (pB P + a) :: rest)) := by
  obtain ⟨t, y, h1, h2, h3⟩ := aL_spec hg
  exact va_alen (D := pD P) X.1.1 X.1.2.1 X.2.1 hM.1.2 a t (wo_at h1) (tysL_at h2) (by rw [rA_len]; exact h3) hd kk
theorem bz_iald (X : Cx p s m args c cc nL own P) (hM : Wd P M s H locs) {i x : Int32} (hg : aI M 0 a i = some x) (hd : decode cc pc = .ok (.iaload, 1))
    (kk : W p l e R s m args below meth c H locs cells slots Q (F0 m (pc + 1) ls (.int x :: rest))) : W p l e R s m args below meth c H locs cells slots Q (F0 m pc ls (.int i :: .ref (pB P + a) :: rest)) := by
  obtain ⟨n, f, h1, h2, rfl⟩ := aI_spec hg
  exact va_iald (D := pD P) X.1.1 X.1.2.1 X.2.1 hM.1.2 a 0 (wo_at h1) (tysL_at (by decide)) h2 hd kk
theorem bz_zald (X : Cx p s m args c cc nL own P) (hM : Wd P M s H locs) {i x : Int32} (hg : aI M 1 a i = some x) (hd : decode cc pc = .ok (.baload, 1))
    (kk : W p l e R s m args below meth c H locs cells slots Q (F0 m (pc + 1) ls (.int x :: rest))) : W p l e R s m args below meth c H locs cells slots Q (F0 m pc ls (.int i :: .ref (pB P + a) :: rest)) := by
  obtain ⟨n, f, h1, h2, rfl⟩ := aI_spec hg
  exact va_zald (D := pD P) X.1.1 X.1.2.1 X.2.1 hM.1.2 a 1 (wo_at h1) (tysL_at (by decide)) h2 hd kk
theorem bz_aald (X : Cx p s m args c cc nL own P) (hM : Wd P M s H locs) {t : Nat} (ht : 2 ≤ t ∧ t < 5) {i : Int32} {r : Option Nat} (hg : aR M t a i = some r) (hd : decode cc pc = .ok (.aaload, 1))
    (kk : W p l e R s m args below meth c H locs cells slots Q (F0 m (pc + 1) ls (rO P r :: rest))) : W p l e R s m args below meth c H locs cells slots Q (F0 m pc ls (.int i :: .ref (pB P + a) :: rest)) := by
  obtain ⟨n, f, h1, h2, rfl⟩ := aR_spec hg
  obtain ⟨C, hC⟩ : ∃ C, tyT t = .object C := by
    match t, ht with
    | 2, _ => exact ⟨_, rfl⟩
    | 3, _ => exact ⟨_, rfl⟩
    | 4, _ => exact ⟨_, rfl⟩
  exact va_aldq (D := pD P) X.1.1 X.1.2.1 X.2.1 hM.1.2 a t (wo_at h1) (by rw [tysL_at ht.2, hC]) h2 hd kk
theorem bz_iast (X : Cx p s m args c cc nL own P) (hM : Wd P M s H locs) {i x : Int32} (hg : sI M 0 a i x = some M') (hd : decode cc pc = .ok (.iastore, 1))
    (kk : ∀ (H1 : Heap) (locs1 : List Loc), Wd P M' s H1 locs1 → W p l e R s m args below meth c H1 locs1 cells slots Q (F0 m (pc + 1) ls rest)) : W p l e R s m args below meth c H locs cells slots Q (F0 m pc ls (.int x :: .int i :: .ref (pB P + a) :: rest)) := by
  obtain ⟨n, f, h1, h2, rfl⟩ := sI_spec hg
  have hat := wo_at (P := P) h1
  refine W.iast X.1.1 X.1.2.1 (hM.1.2 a _ hat) ((X.2.1.2 0 _ rfl).1 n (fun j => .int (f j))) (fun q => by cases q) (by show ¬ (i < 0 ∨ (arrV _ _ _).slots.size ≤ _); rw [arrV_size]; exact h2) rfl rfl hd fun H1 e1 z oq => ?_
  refine kk H1 _ ⟨Rp.set h1 (z.trans hM.1.1) (hM.1.2.set (wo_D (P := P)) hat ?_ oq), hM.2.put z oq (Nat.le_add_right _ _)⟩
  show H1[pB P + a]? = some (vp_cell (pC P 0) (n, .inl (upd f i.toNatClampNeg x)))
  rw [show H1[pB P + a]? = some ((vp_cell (pC P 0) (n, .inl f)).setSlot i.toNatClampNeg (.int x)) from e1]
  rw [bz_ci, bz_ci, arrV_store]
  exact congrArg some (congrArg _ (bz_upd _ _ _))
theorem bz_zast (X : Cx p s m args c cc nL own P) (hM : Wd P M s H locs) {i x : Int32} (hz : x = 0 ∨ x = 1) (hg : sI M 1 a i x = some M') (hd : decode cc pc = .ok (.bastore, 1))
    (kk : ∀ (H1 : Heap) (locs1 : List Loc), Wd P M' s H1 locs1 → W p l e R s m args below meth c H1 locs1 cells slots Q (F0 m (pc + 1) ls rest)) : W p l e R s m args below meth c H locs cells slots Q (F0 m pc ls (.int x :: .int i :: .ref (pB P + a) :: rest)) := by
  obtain ⟨n, f, h1, h2, rfl⟩ := sI_spec hg
  have hat := wo_at (P := P) h1
  refine W.zast X.1.1 X.1.2.1 (hM.1.2 a _ hat) ((X.2.1.2 1 _ rfl).1 n (fun j => .int (f j))) (fun q => by cases q) (by show ¬ (i < 0 ∨ (arrV _ _ _).slots.size ≤ _); rw [arrV_size]; exact h2) rfl rfl hd fun H1 e1 z oq => ?_
  refine kk H1 _ ⟨Rp.set h1 (z.trans hM.1.1) (hM.1.2.set (wo_D (P := P)) hat ?_ oq), hM.2.put z oq (Nat.le_add_right _ _)⟩
  have hnar : narrow .boolean (.int x) = .int x := by rcases hz with rfl | rfl <;> rfl
  show H1[pB P + a]? = some (vp_cell (pC P 1) (n, .inl (upd f i.toNatClampNeg x)))
  rw [show H1[pB P + a]? = some ((vp_cell (pC P 1) (n, .inl f)).setSlot i.toNatClampNeg (narrow .boolean (.int x))) from e1]
  rw [hnar, bz_ci, bz_ci, arrV_store]
  exact congrArg some (congrArg _ (bz_upd _ _ _))
theorem bz_aast (X : Cx p s m args c cc nL own P) (hM : Wd P M s H locs) {t ci : Nat} {T : u_T} {N : Nat} {C : String} (ht : t < 5 ∧ tyT t = .object C ∧ vwCl[ci]? = some (C, T, N)) {i : Int32} {r : Option Nat} (hg : sR M t ci a i r = some M') (hd : decode cc pc = .ok (.aastore, 1))
    (kk : ∀ (H1 : Heap) (locs1 : List Loc), Wd P M' s H1 locs1 → W p l e R s m args below meth c H1 locs1 cells slots Q (F0 m (pc + 1) ls rest)) : W p l e R s m args below meth c H locs cells slots Q (F0 m pc ls (rO P r :: .int i :: .ref (pB P + a) :: rest)) := by
  obtain ⟨n, f, h1, h2, h3, rfl⟩ := sR_spec hg
  obtain ⟨t1, t2, t3⟩ := ht
  have hat := wo_at (P := P) h1
  have hty := tysL_at (P := P) t1
  rw [t2] at hty
  have fin1 : ∀ H1 : Heap, H1[pB P + a]? = some ((vp_cell (pC P t) (n, .inr (.inr (.inr (.inr (fun j => (f j).map (fun k => pB P + k))))))).setSlot i.toNatClampNeg (rO P r)) → H1.size = H.size → (∀ q, q ≠ pB P + a → H1[q]? = H[q]?) → W p l e R s m args below meth c H1 (locs ++ [⟨pB P + a, i.toNatClampNeg⟩]) cells slots Q (F0 m (pc + 1) ls rest) := by
    intro H1 e1 z oq
    refine kk H1 _ ⟨Rp.set h1 (z.trans hM.1.1) (hM.1.2.set (wo_D (P := P)) hat ?_ oq), hM.2.put z oq (Nat.le_add_right _ _)⟩
    show H1[pB P + a]? = some (vp_cell (pC P t) (n, .inr (.inr (.inr (.inr (fun j => (va_up f i.toNatClampNeg r j).map (fun k => pB P + k)))))))
    rw [e1, bz_cq, bz_cq, arrV_store]
    exact congrArg some (congrArg _ (bz_updq _ _ _ _))
  have hlt : i.toNatClampNeg < n := Nat.not_le.mp fun q => h2 (Or.inr q)
  have h0 : ¬ i < 0 := fun q => h2 (Or.inl q)
  cases r with
  | none =>
    exact va_WaastN (C := C) X.1.1 X.1.2.1 (hM.1.2 a _ hat) ((X.2.1.2 t _ hty).1 n (fun j => va_rf ((f j).map (fun k => pB P + k)))) (fun h => by cases h) (by show ¬ (i < 0 ∨ (arrV _ _ _).slots.size ≤ _); rw [arrV_size]; exact h2) rfl rfl hd fin1
  | some v =>
    obtain ⟨fs, hv⟩ : ∃ fs, M[v]? = some (.inr (ci, fs)) := by
      unfold isO at h3
      dsimp only at h3
      split at h3
      · next o ho => exact ⟨o.2, by rw [ho, ← of_decide_eq_true h3]⟩
      · cases h3
    obtain ⟨r', hr', cellV, g1, g2, g3, -⟩ := hM.1.2 v _ (wo_at hv)
    have hcls := (X.2.1.1 ci _ t3).2
    obtain ⟨kA, comp, k1, k2, k3, -⟩ := (X.2.1.2 t _ hty).2
    have hcomp : comp = (pD P).1 ci := Option.some.inj (k3.symm.trans hcls.1)
    subst hcomp
    obtain ⟨kC, hkC, -⟩ := hcls.2
    exact W.aast X.1.1 X.1.2.1 (hM.1.2 a _ hat) (fun q h => by cases h) (fun h => by cases h) k1 k2 rfl hkC ⟨h0, by show _ < (arrV _ _ _).slots.size; rw [arrV_size]; exact hlt⟩ g1 (fun q h => by rw [g3] at h; cases h) (by rw [g2]; exact hkC) (by rw [g2]; exact va_assign hcls) rfl rfl hd fin1
end BZ
