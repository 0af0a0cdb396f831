/-! what the laid rows stand on -/
def bd2 {α γ β : Type} (o : Option (α × γ)) (f : α → γ → Option β) : Option β := match o with
  | some q => f q.1 q.2
  | none => none
theorem ob2 {α γ β : Type} {o : Option (α × γ)} {f : α → γ → Option β} {r : β} (h : bd2 o f = some r) : ∃ x y, o = some (x, y) ∧ f x y = some r := by
  match o, h with
  | some (x, y), h => exact ⟨x, y, rfl, h⟩
theorem so1 {α : Type} {a b : α} (h : some a = some b) : b = a := (Option.some.inj h).symm
theorem so2 {α β : Type} {a c : α} {b d : β} (h : some (a, b) = some (c, d)) : c = a ∧ d = b := ⟨(congrArg Prod.fst (Option.some.inj h)).symm, (congrArg Prod.snd (Option.some.inj h)).symm⟩
def om {β : Type} (r : Option Nat) (A : Option β) (B : Nat → Option β) : Option β := match r with
  | none => A
  | some x => B x
theorem om_n {β : Type} {r : Option Nat} {A : Option β} {B : Nat → Option β} {z : β} (hc : r = none) (h : om r A B = some z) : A = some z := by subst hc; exact h
theorem om_s {β : Type} {r : Option Nat} {A : Option β} {B : Nat → Option β} {z : β} {x : Nat} (hc : r = some x) (h : om r A B = some z) : B x = some z := by subst hc; exact h
def gQ (M : Mm) (ci a k : Nat) : Option Nat := match gF M ci a k with
  | some (.ref x) => some x
  | _ => none
theorem gQ_spec {M : Mm} {ci a k x : Nat} (h : gQ M ci a k = some x) : gF M ci a k = some (.ref x) := by
  unfold gQ at h
  split at h
  · next y hy => cases h; exact hy
  · cases h
def gC (M : Mm) (ci a : Nat) : Option Nat := match M[a]? with
  | some (.inr o) => if o.1 = ci then some a else none
  | _ => none
theorem gC_spec {M : Mm} {ci a b : Nat} (h : gC M ci a = some b) : ∃ fs, M[a]? = some (.inr (ci, fs)) := by
  unfold gC at h
  split at h
  · next o ho =>
    split at h
    · next hc => exact ⟨o.2, by rw [ho, ← hc]⟩
    · cases h
  · cases h
def rmI (x y : Int32) : Int32 := x - x / y * y
def rmJ (x y : Int64) : Int64 := x - x / y * y
def sK (j : Nat) : Option Nat := if j < 11 then some j else none
theorem sK_spec {j k : Nat} (h : sK j = some k) : j < 11 := by
  unfold sK at h
  split at h
  · assumption
  · cases h
def sLn (j : Nat) : Int32 := Int32.ofNat (st_len.getD j 0)
def sBy (j : Nat) (i : Int32) : Option Int32 := if j < 11 ∧ ¬ (i < 0 ∨ st_len.getD j 0 ≤ i.toNatClampNeg) then some ((st_by.getD j []).getD i.toNatClampNeg 0) else none
theorem sBy_spec {j : Nat} {i x : Int32} (h : sBy j i = some x) : j < 11 ∧ vp_in i (st_len.getD j 0) ∧ (st_by.getD j []).getD i.toNatClampNeg 0 = x := by
  unfold sBy at h
  split at h
  · next hc => cases h; exact ⟨hc.1, hc.2, rfl⟩
  · cases h
def bBo (i : Int32) : Option Int32 := if ¬ (i < 0 ∨ 32 ≤ i.toNatClampNeg) then some (bo_l.getD i.toNatClampNeg 0) else none
theorem bBo_spec {i x : Int32} (h : bBo i = some x) : vp_in i 32 ∧ bo_l.getD i.toNatClampNeg 0 = x := by
  unfold bBo at h
  split at h
  · next hc => cases h; exact ⟨hc, rfl⟩
  · cases h
theorem zr_spec {x y : Int32} (h : zr x = some y) : x = y ∧ (y = 0 ∨ y = 1) := by
  unfold zr at h
  split at h
  · next hc => cases h; exact ⟨rfl, hc⟩
  · cases h
theorem dI_spec {x y z : Int32} (h : dI x y = some z) : ¬ y = 0 ∧ z = x / y := by
  unfold dI at h
  split at h
  · cases h
  · next hc => cases h; exact ⟨hc, rfl⟩
theorem mI_spec {x y z : Int32} (h : mI x y = some z) : ¬ y = 0 ∧ z = rmI x y := by
  unfold mI at h
  split at h
  · cases h
  · next hc => cases h; exact ⟨hc, rfl⟩
theorem dJ_spec {x y z : Int64} (h : dJ x y = some z) : ¬ y = 0 ∧ z = x / y := by
  unfold dJ at h
  split at h
  · cases h
  · next hc => cases h; exact ⟨hc, rfl⟩
theorem mJ_spec {x y z : Int64} (h : mJ x y = some z) : ¬ y = 0 ∧ z = rmJ x y := by
  unfold mJ at h
  split at h
  · cases h
  · next hc => cases h; exact ⟨hc, rfl⟩
theorem vi_cat (x : Int32) : (Value.int x).category = 1 := rfl
theorem vr_cat (x : Nat) : (Value.ref x).category = 1 := rfl
theorem vl_cat (x : Int64) : (Value.long x).category = 2 := rfl
theorem vn_cat : Value.null.category = 1 := rfl
theorem rO_cat (P : PT) (r : Option Nat) : (rO P r).category = 1 := by cases r <;> rfl
/-- what is fixed in a method's walk -/
def Cy (p : Program) (s : State) (m : MethodId) (args : Array Value) (c : Code) (meth : Method) (cc : ByteArray) (nL : Nat) (own nm : String) (ret : Option FieldType) (P : PT) : Prop :=
  Cx p s m args c cc nL own P ∧ meth.sig.returnType = ret ∧ meth.locks = false ∧ meth.name = nm
/-- at pc, with the locals lv, the operand stack st and the memory M: the method comes to its end with ov and M' -/
abbrev Wq (p : Program) (l : Launch) (e : Env) (s : State) (m : MethodId) (args : Array Value) (below : List Frame) (meth : Method) (c : Code) (d mc : Nat) (ov : Option Value) (M' : Mm) (nL : Nat) (P : PT) (cl pc : Nat) (lv : List (Nat × Value)) (st : List Value) (M : Mm) : Prop :=
  ∀ (H : Heap) (locs : List Loc) (ls : Array Slot), Wd P M s H locs → lv_has ls nL lv → W p l e (rmd d mc) s m args below meth c H locs cl (1000 * cl) (MQ below (Qp P ov M') args s mc (1000 * mc) (fun q => pB P ≤ q)) (F0 m pc ls st)
theorem Met.ofWF {l : Launch} {y : MethodName} {ws ws' : List Cond} {rm : Room} {Pc : Array Value → State → Prop} {Qc : Array Value → State → Outcome → State → Prop} {mc ms : Nat} {free : Addr → Prop} {cc : ByteArray} {maxL : Nat} {ret : Option FieldType}
    (hy : plainFor y = true) (hw : ws = Cond.code y cc maxL ret :: ws')
    (body : ∀ p e s m args below meth c s₁, BodyLoose p l y (headSpec ws rm) cc maxL ret e s m args below meth c s₁ → c.maxLocals = maxL → Pc args s →
      W p l e (headSpec ws rm).room s m args below meth c s.heap [] 0 0 (MQ below Qc args s mc ms free) (entryFrame m args maxL)) : Met l y ws rm Pc Qc mc ms free := by
  refine MetFree.of_bodySF (code := cc) (maxLocals := maxL) (ret := ret) hy ?_ ?_
  · intro args s m h hn
    obtain ⟨meth, c, h1, h2, h3, h4, h5, h6, -, -⟩ := Cond.code_spec hn (atoms_spec (ws := ws) h _ (by rw [hw]; exact List.mem_cons_self))
    exact ⟨meth, c, h1, h2, h3, h4, h5, h6⟩
  · intro p e s m args below meth c s₁ B hml hP _
    have hh0 : s₁.heap = s.heap := by rw [B.state]; rfl
    obtain ⟨t, a1, o, b1, b2, b3⟩ := body p e s m args below meth c s₁ B hml hP s₁ hh0 (Stand.of_body B)
    exact ⟨t, o, a1, b1, b2, ⟨b3.1, b3.2⟩⟩
theorem Ct.mk {l : Launch} {y : MethodName} {cc : ByteArray} {nL : Nat} {ret : Option FieldType} {d mc : Nat} {P : PT} {av : List Value} {M : Mm} {ov : Option Value} {M' : Mm} (hpl : plainFor y = true) (hn : (lg_sl av).length ≤ nL)
    (hw : ∀ (p : Program) (e : Env) (s : State) (m : MethodId) (args : Array Value) (below : List Frame) (meth : Method) (c : Code), Cy p s m args c meth cc nL y.cls y.name ret P → Wq p l e s m args below meth c d mc ov M' nL P 0 0 (lv_args 0 av) [] M) : Ct l y cc nL ret d mc P av M ov M' := by
  refine Met.ofWF (cc := cc) (maxL := nL) (ret := ret) hpl rfl ?_
  intro p e s m args below meth c s₁ B hml hv
  obtain ⟨rfl, hG, hR⟩ := hv
  have hts := atoms_spec (ws := Cond.code y cc nL ret :: gd_tbl) B.pre
  have hown : s.vm.findClass y.cls = some m.cls := findClass_of_methodNamed B.named
  have hl := lv_entry av (n := nL) hn
  rw [lg_entry_eq]
  generalize (lg_sl av ++ List.replicate (nL - (lg_sl av).length) Slot.unset).toArray = ls at hl ⊢
  exact hw p e s m av.toArray below meth c ⟨⟨⟨B.exec, B.bytes, hml, hown, fun w h => hts w (List.mem_cons_of_mem _ h)⟩, hG⟩, B.returns, B.notSynchronized, (name_of_methodNamed B.named B.method).1⟩ s.heap [] ls ⟨hR, va_S.rf⟩ hl
section BD
variable {p : Program} {l : Launch} {e : Env} {R : Room} {s : State} {m : MethodId} {args : Array Value} {below : List Frame} {meth : Method} {c : Code} {H : Heap} {locs : List Loc} {cells slots : Nat} {Q : State → Prop}
variable {cc : ByteArray} {pc nL : Nat} {ls : Array Slot} {rest : List Value} {own : String} {P : PT} {M M' : Mm} {index ci a k : Nat}
theorem bz_getQ (X : Cx p s m args c cc nL own P) (hM : Wd P M s H locs) {ty : FieldType} (hF : FL own index ci k ty) {x : Nat} (hg : gQ M ci a k = some x) (hd : decode cc pc = .ok (.getfield index, 3))
    (kk : W p l e R s m args below meth c H locs cells slots Q (F0 m (pc + 3) ls (.ref (pB P + x) :: rest))) : W p l e R s m args below meth c H locs cells slots Q (F0 m pc ls (.ref (pB P + a) :: rest)) := bz_get X hM hF (gQ_spec hg) hd kk
theorem bz_putQ (X : Cx p s m args c cc nL own P) (hM : Wd P M s H locs) {fin : Bool} {ty : FieldType} (hF : FP own index ci k ty fin) (hty : ty.isReference = true) (hfin : fin = false ∨ meth.name = "<init>") {x : Nat} (hg : pF M ci a k (.ref x) = some M') (hd : decode cc pc = .ok (.putfield index, 3))
    (kk : ∀ (H1 : Heap) (locs1 : List Loc), Wd P M' s H1 locs1 → W p l e R s m args below meth c H1 locs1 cells slots Q (F0 m (pc + 3) ls rest)) : W p l e R s m args below meth c H locs cells slots Q (F0 m pc ls (.ref (pB P + x) :: .ref (pB P + a) :: rest)) := bz_putR (r := some x) X hM hF hty hfin hg hd kk
theorem bz_obj (X : Cx p s m args c cc nL own P) (hlen : ls.size = nL) (hlk : Cond.methodLink own index Lib.objectInit ∈ gd_tbl) (hin : Cond.instanceMethod Lib.objectInit ∈ gd_tbl) (hco : Cond.code Lib.objectInit ⟨#[0xb1]⟩ 1 none ∈ gd_tbl) {x : Nat} (hf : 1 ≤ R.frames) (hlo : (rest.map fun v => v.category).sum + 12 ≤ R.locals) (hd : decode cc pc = .ok (.invokespecial index, 3))
    (kk : W p l e R s m args below meth c H locs cells slots Q (F0 m (pc + 3) ls rest)) : W p l e R s m args below meth c H locs cells slots Q (F0 m pc ls (.ref x :: rest)) := by
  obtain ⟨⟨hx, hb, hml, hown, hts⟩, hG⟩ := X
  refine W.objInit hx hb hown (hts _ hlk) (hts _ hin) (hts _ hco) rfl (by rw [hml]; exact hlen) rfl hd hf (by show 2 * 0 + _ + 12 ≤ _; omega) ?_
  exact W.eq (g2 := F0 m (pc + 3) ls rest) rfl kk
theorem bz_ldcS (X : Cx p s m args c cc nL own P) (i : Nat) (hi : i < 11) (ho : st_own i = own) (hix : st_ix i = index) (hd : decode cc pc = .ok (.ldc index, 2))
    (kk : W p l e R s m args below meth c H locs cells slots Q (F0 m (pc + 2) ls (.ref (pK P i) :: rest))) : W p l e R s m args below meth c H locs cells slots Q (F0 m pc ls rest) := by
  subst ho
  subst hix
  exact va_ldcS X.1.1 X.1.2.1 X.1.2.2.2.1 (X.2.2.2.2.1 i hi) hd kk
theorem bz_bodies (X : Cx p s m args c cc nL own P) (hM : Wd P M s H locs) (hlk : Cond.fieldLink own index RX9 "BODIES" "[I" ∈ gd_tbl) (hd : decode cc pc = .ok (.getstatic index, 3))
    (kk : W p l e R s m args below meth c H locs cells slots Q (F0 m (pc + 3) ls (.ref (pO P) :: rest))) : W p l e R s m args below meth c H locs cells slots Q (F0 m pc ls rest) :=
  va_gets X.1.1 X.1.2.1 X.2.2.2.2.2.1 hM.2 X.1.2.2.2.1 (X.1.2.2.2.2 _ hlk) (fun _ h => h) hd kk
theorem bz_compact (X : Cx p s m args c cc nL own P) (hM : Wd P M s H locs) (hlk : Cond.fieldLink own index "java/lang/String" "COMPACT_STRINGS" "Z" ∈ gd_tbl) (hd : decode cc pc = .ok (.getstatic index, 3))
    (kk : W p l e R s m args below meth c H locs cells slots Q (F0 m (pc + 3) ls (.int 1 :: rest))) : W p l e R s m args below meth c H locs cells slots Q (F0 m pc ls rest) :=
  va_gets X.1.1 X.1.2.1 X.2.2.2.2.2.2.2.1 hM.2 X.1.2.2.2.1 (X.1.2.2.2.2 _ hlk) (fun _ h => h) hd kk
theorem bz_bald (X : Cx p s m args c cc nL own P) (hM : Wd P M s H locs) {i x : Int32} (hg : bBo i = some x) (hd : decode cc pc = .ok (.iaload, 1))
    (kk : W p l e R s m args below meth c H locs cells slots Q (F0 m (pc + 1) ls (.int x :: rest))) : W p l e R s m args below meth c H locs cells slots Q (F0 m pc ls (.int i :: .ref (pO P) :: rest)) := by
  obtain ⟨h1, h2⟩ := bBo_spec hg
  exact va_ti X.1.1 X.1.2.1 X.2.2.2.2.2.2.1 hM.2 h1 (by rw [h2]) hd kk
theorem bz_blen (X : Cx p s m args c cc nL own P) (hM : Wd P M s H locs) (hd : decode cc pc = .ok (.arraylength, 1))
    (kk : W p l e R s m args below meth c H locs cells slots Q (F0 m (pc + 1) ls (.int 32 :: rest))) : W p l e R s m args below meth c H locs cells slots Q (F0 m pc ls (.ref (pO P) :: rest)) :=
  va_tlen X.1.1 X.1.2.1 X.2.2.2.2.2.2.1 hM.2 rfl hd kk
theorem bz_sval (X : Cx p s m args c cc nL own P) (hM : Wd P M s H locs) (hlk : Cond.fieldLink own index "java/lang/String" "value" "[B" ∈ gd_tbl) {j j2 : Nat} (hg : sK j = some j2) (hd : decode cc pc = .ok (.getfield index, 3))
    (kk : W p l e R s m args below meth c H locs cells slots Q (F0 m (pc + 3) ls (.ref (pV P j) :: rest))) : W p l e R s m args below meth c H locs cells slots Q (F0 m pc ls (.ref (pK P j) :: rest)) :=
  vk_getf X.1.1 X.1.2.1 (X.2.2.2.1.1 j (sK_spec hg)).2.2.1 hM.2 X.1.2.2.2.1 (X.1.2.2.2.2 _ hlk) (fun _ h => h) hd kk
theorem bz_scod (X : Cx p s m args c cc nL own P) (hM : Wd P M s H locs) (hlk : Cond.fieldLink own index "java/lang/String" "coder" "B" ∈ gd_tbl) {j j2 : Nat} (hg : sK j = some j2) (hd : decode cc pc = .ok (.getfield index, 3))
    (kk : W p l e R s m args below meth c H locs cells slots Q (F0 m (pc + 3) ls (.int 0 :: rest))) : W p l e R s m args below meth c H locs cells slots Q (F0 m pc ls (.ref (pK P j) :: rest)) :=
  vk_getf X.1.1 X.1.2.1 (X.2.2.2.1.1 j (sK_spec hg)).2.1 hM.2 X.1.2.2.2.1 (X.1.2.2.2.2 _ hlk) (fun _ h => h) hd kk
theorem bz_slen (X : Cx p s m args c cc nL own P) (hM : Wd P M s H locs) {j j2 : Nat} (hg : sK j = some j2) (hd : decode cc pc = .ok (.arraylength, 1))
    (kk : W p l e R s m args below meth c H locs cells slots Q (F0 m (pc + 1) ls (.int (sLn j) :: rest))) : W p l e R s m args below meth c H locs cells slots Q (F0 m pc ls (.ref (pV P j) :: rest)) :=
  va_tlen X.1.1 X.1.2.1 (X.2.2.2.1.1 j (sK_spec hg)).2.2.2 hM.2 rfl hd kk
theorem bz_sald (X : Cx p s m args c cc nL own P) (hM : Wd P M s H locs) {j : Nat} {i x : Int32} (hg : sBy j i = some x) (hd : decode cc pc = .ok (.baload, 1))
    (kk : W p l e R s m args below meth c H locs cells slots Q (F0 m (pc + 1) ls (.int x :: rest))) : W p l e R s m args below meth c H locs cells slots Q (F0 m pc ls (.int i :: .ref (pV P j) :: rest)) := by
  obtain ⟨h0, h1, h2⟩ := sBy_spec hg
  exact va_tb X.1.1 X.1.2.1 (X.2.2.2.1.1 j h0).2.2.2 hM.2 h1 (by rw [h2]) hd kk
theorem bz_irem (hx : p.tables.exec = Jvm.exec) (hb : c.code = cc) {x y : Int32} (hd : decode cc pc = .ok (.irem, 1)) (hne : ¬ y = 0)
    (kk : W p l e R s m args below meth c H locs cells slots Q (F0 m (pc + 1) ls (.int (rmI x y) :: rest))) : W p l e R s m args below meth c H locs cells slots Q (F0 m pc ls (.int y :: .int x :: rest)) := lv_irem hx hb hd hne kk
theorem bz_lrem (hx : p.tables.exec = Jvm.exec) (hb : c.code = cc) {x y : Int64} (hd : decode cc pc = .ok (.lrem, 1)) (hne : ¬ y = 0)
    (kk : W p l e R s m args below meth c H locs cells slots Q (F0 m (pc + 1) ls (.long (rmJ x y) :: rest))) : W p l e R s m args below meth c H locs cells slots Q (F0 m pc ls (.long y :: .long x :: rest)) := lv_lrem hx hb hd hne kk
/-! references that may be null -/
theorem bz_aload_nO (hx : p.tables.exec = Jvm.exec) (hb : c.code = cc) {n : Fin 4} {i : Nat} {r : Option Nat} (hd : decode cc pc = .ok (.aload_n n, 1)) (hi : (n : Nat) = i) (hl : ls[i]? = some (.val (rO P r)))
    (kk : W p l e R s m args below meth c H locs cells slots Q (F0 m (pc + 1) ls (rO P r :: rest))) : W p l e R s m args below meth c H locs cells slots Q (F0 m pc ls rest) := by
  cases r with
  | none => exact lv_aload_nN hx hb hd hi hl kk
  | some x => exact lv_aload_n hx hb hd hi hl kk
theorem bz_aloadO (hx : p.tables.exec = Jvm.exec) (hb : c.code = cc) {i : Nat} {r : Option Nat} (hd : decode cc pc = .ok (.aload i, 2)) (hl : ls[i]? = some (.val (rO P r)))
    (kk : W p l e R s m args below meth c H locs cells slots Q (F0 m (pc + 2) ls (rO P r :: rest))) : W p l e R s m args below meth c H locs cells slots Q (F0 m pc ls rest) := by
  cases r with
  | none => exact lv_aloadN hx hb hd hl kk
  | some x => exact lv_aload hx hb hd hl kk
theorem bz_astore_nO (hx : p.tables.exec = Jvm.exec) (hb : c.code = cc) {n : Fin 4} {i : Nat} {r : Option Nat} {lv lv' : List (Nat × Value)} (hd : decode cc pc = .ok (.astore_n n, 1)) (hi : (n : Nat) = i) (h : lv_has ls nL lv) (hn : i < nL) (hl : (i, rO P r) :: lv.filter (fun q => !(q.1 == i) && !(q.1 + 1 == i && q.2.category == 2)) = lv')
    (kk : ∀ ls' : Array Slot, lv_has ls' nL lv' → W p l e R s m args below meth c H locs cells slots Q (F0 m (pc + 1) ls' rest)) : W p l e R s m args below meth c H locs cells slots Q (F0 m pc ls (rO P r :: rest)) := by
  cases r with
  | none => exact lv_astore_nN hx hb hd hi h hn hl kk
  | some x => exact lv_astore_n hx hb hd hi h hn hl kk
theorem bz_astoreO (hx : p.tables.exec = Jvm.exec) (hb : c.code = cc) {i : Nat} {r : Option Nat} {lv lv' : List (Nat × Value)} (hd : decode cc pc = .ok (.astore i, 2)) (h : lv_has ls nL lv) (hn : i < nL) (hl : (i, rO P r) :: lv.filter (fun q => !(q.1 == i) && !(q.1 + 1 == i && q.2.category == 2)) = lv')
    (kk : ∀ ls' : Array Slot, lv_has ls' nL lv' → W p l e R s m args below meth c H locs cells slots Q (F0 m (pc + 2) ls' rest)) : W p l e R s m args below meth c H locs cells slots Q (F0 m pc ls (rO P r :: rest)) := by
  cases r with
  | none => exact lv_astoreN hx hb hd h hn hl kk
  | some x => exact lv_astore hx hb hd h hn hl kk
theorem bz_ifnullO (hx : p.tables.exec = Jvm.exec) (hb : c.code = cc) {r : Option Nat} {off : Int} {tgt : Nat} (hd : decode cc pc = .ok (.ifnull off, 3)) (ht : (pc : Int) + off = (tgt : Int)) (kt : r = none → W p l e R s m args below meth c H locs cells slots Q (F0 m tgt ls rest)) (kf : ∀ x, r = some x → W p l e R s m args below meth c H locs cells slots Q (F0 m (pc + 3) ls rest)) : W p l e R s m args below meth c H locs cells slots Q (F0 m pc ls (rO P r :: rest)) := by
  cases r with
  | none => exact lv_ifnullN hx hb hd ht (kt rfl)
  | some x => exact lv_ifnull hx hb hd (kf x rfl)
theorem bz_ifnonnullO (hx : p.tables.exec = Jvm.exec) (hb : c.code = cc) {r : Option Nat} {off : Int} {tgt : Nat} (hd : decode cc pc = .ok (.ifnonnull off, 3)) (ht : (pc : Int) + off = (tgt : Int)) (kt : ∀ x, r = some x → W p l e R s m args below meth c H locs cells slots Q (F0 m tgt ls rest)) (kf : r = none → W p l e R s m args below meth c H locs cells slots Q (F0 m (pc + 3) ls rest)) : W p l e R s m args below meth c H locs cells slots Q (F0 m pc ls (rO P r :: rest)) := by
  cases r with
  | none => exact lv_ifnonnullN hx hb hd (kf rfl)
  | some x => exact lv_ifnonnull hx hb hd ht (kt x rfl)
/-! calls, by their answers -/
variable {y : MethodName} {bytes : ByteArray} {maxL d mc n : Nat} {ret : Option FieldType} {v : Value} {C : String} {fs : List Value} {T : u_T} {N : Nat}
theorem bz_callV1 (X : Cx p s m args c cc nL own P) (hM : Wd P M s H locs) (hlen : ls.size = nL) (hK : KV own index C y bytes maxL ret n) {b : Nat} {As : List Value} (hC : Ct l y bytes maxL ret d mc P (.ref (pB P + b) :: As) M (some v) M') (hcl : vwCl[ci]? = some (C, T, N)) (hb : M[b]? = some (.inr (ci, fs))) (hn : As.length = n) {st0 : List Value} (hst : st0 = As.reverse ++ .ref (pB P + b) :: rest) (hR : d + 1 ≤ R.frames ∧ 8 + (maxL + 11) + 41 * d ≤ R.locals) (hrs : (rest.map fun v => v.category).sum ≤ 8) (hf : cells + mc ≤ R.cells ∧ slots + 1000 * mc ≤ R.slots) (hd : decode cc pc = .ok (.invokevirtual index, 3))
    (kk : ∀ (H1 : Heap) (locs1 : List Loc), Wd P M' s H1 locs1 → W p l e R s m args below meth c H1 locs1 (cells + mc) (slots + 1000 * mc) Q (F0 m (pc + 3) ls (v :: rest))) : W p l e R s m args below meth c H locs cells slots Q (F0 m pc ls st0) := bz_callV X hM hlen hK hC hcl hb hn hst hR hrs hf hd kk
theorem bz_callV0 (X : Cx p s m args c cc nL own P) (hM : Wd P M s H locs) (hlen : ls.size = nL) (hK : KV own index C y bytes maxL ret n) {b : Nat} {As : List Value} (hC : Ct l y bytes maxL ret d mc P (.ref (pB P + b) :: As) M none M') (hcl : vwCl[ci]? = some (C, T, N)) (hb : M[b]? = some (.inr (ci, fs))) (hn : As.length = n) {st0 : List Value} (hst : st0 = As.reverse ++ .ref (pB P + b) :: rest) (hR : d + 1 ≤ R.frames ∧ 8 + (maxL + 11) + 41 * d ≤ R.locals) (hrs : (rest.map fun v => v.category).sum ≤ 8) (hf : cells + mc ≤ R.cells ∧ slots + 1000 * mc ≤ R.slots) (hd : decode cc pc = .ok (.invokevirtual index, 3))
    (kk : ∀ (H1 : Heap) (locs1 : List Loc), Wd P M' s H1 locs1 → W p l e R s m args below meth c H1 locs1 (cells + mc) (slots + 1000 * mc) Q (F0 m (pc + 3) ls rest)) : W p l e R s m args below meth c H locs cells slots Q (F0 m pc ls st0) := bz_callV X hM hlen hK hC hcl hb hn hst hR hrs hf hd kk
theorem bz_callS1 (X : Cx p s m args c cc nL own P) (hM : Wd P M s H locs) (hlen : ls.size = nL) (hK : KS own index y bytes maxL ret n) {As : List Value} (hC : Ct l y bytes maxL ret d mc P As M (some v) M') (hn : As.length = n) {st0 : List Value} (hst : st0 = As.reverse ++ rest) (hR : d + 1 ≤ R.frames ∧ 8 + (maxL + 11) + 41 * d ≤ R.locals) (hrs : (rest.map fun v => v.category).sum ≤ 8) (hf : cells + mc ≤ R.cells ∧ slots + 1000 * mc ≤ R.slots) (hd : decode cc pc = .ok (.invokestatic index, 3))
    (kk : ∀ (H1 : Heap) (locs1 : List Loc), Wd P M' s H1 locs1 → W p l e R s m args below meth c H1 locs1 (cells + mc) (slots + 1000 * mc) Q (F0 m (pc + 3) ls (v :: rest))) : W p l e R s m args below meth c H locs cells slots Q (F0 m pc ls st0) := bz_callS X hM hlen hK hC hn hst hR hrs hf hd kk
/-- a method of a String constant -/
theorem bz_callT1 (X : Cx p s m args c cc nL own P) (hM : Wd P M s H locs) (hlen : ls.size = nL) (hK : KV own index "java/lang/String" y bytes maxL ret n) {j j2 : Nat} (hj : sK j = some j2) {As : List Value} (hC : Ct l y bytes maxL ret d mc P (.ref (pK P j) :: As) M (some v) M') (hn : As.length = n) {st0 : List Value} (hst : st0 = As.reverse ++ .ref (pK P j) :: rest) (hR : d + 1 ≤ R.frames ∧ 8 + (maxL + 11) + 41 * d ≤ R.locals) (hrs : (rest.map fun v => v.category).sum ≤ 8) (hf : cells + mc ≤ R.cells ∧ slots + 1000 * mc ≤ R.slots) (hd : decode cc pc = .ok (.invokevirtual index, 3))
    (kk : ∀ (H1 : Heap) (locs1 : List Loc), Wd P M' s H1 locs1 → W p l e R s m args below meth c H1 locs1 (cells + mc) (slots + 1000 * mc) Q (F0 m (pc + 3) ls (v :: rest))) : W p l e R s m args below meth c H locs cells slots Q (F0 m pc ls st0) := by
  refine bz_go (va_runV (As := As) (rest := rest) X.1 hC (cwV n X.1.2.2.2.2 (wsV_in hK) rfl rfl rfl hK.2.2.2.2.2 hR) ⟨Pp.blind, ?_, fun U hU hW => Pp.now X.2 hM U hU hW⟩ rfl hn hlen hst (lv_room hrs) hd hf) X.2 hM kk
  exact vk_recv X.2.2.2.1 (sK_spec hj) hM.2
theorem bz_idiv (hx : p.tables.exec = Jvm.exec) (hb : c.code = cc) {x y z : Int32} (hg : dI x y = some z) (hd : decode cc pc = .ok (.idiv, 1))
    (kk : W p l e R s m args below meth c H locs cells slots Q (F0 m (pc + 1) ls (.int z :: rest))) : W p l e R s m args below meth c H locs cells slots Q (F0 m pc ls (.int y :: .int x :: rest)) := by
  obtain ⟨h1, rfl⟩ := dI_spec hg
  exact lv_idiv hx hb hd h1 kk
theorem bz_imod (hx : p.tables.exec = Jvm.exec) (hb : c.code = cc) {x y z : Int32} (hg : mI x y = some z) (hd : decode cc pc = .ok (.irem, 1))
    (kk : W p l e R s m args below meth c H locs cells slots Q (F0 m (pc + 1) ls (.int z :: rest))) : W p l e R s m args below meth c H locs cells slots Q (F0 m pc ls (.int y :: .int x :: rest)) := by
  obtain ⟨h1, rfl⟩ := mI_spec hg
  exact lv_irem hx hb hd h1 kk
theorem bz_ldiv (hx : p.tables.exec = Jvm.exec) (hb : c.code = cc) {x y z : Int64} (hg : dJ x y = some z) (hd : decode cc pc = .ok (.ldiv, 1))
    (kk : W p l e R s m args below meth c H locs cells slots Q (F0 m (pc + 1) ls (.long z :: rest))) : W p l e R s m args below meth c H locs cells slots Q (F0 m pc ls (.long y :: .long x :: rest)) := by
  obtain ⟨h1, rfl⟩ := dJ_spec hg
  exact lv_ldiv hx hb hd h1 kk
theorem bz_lmod (hx : p.tables.exec = Jvm.exec) (hb : c.code = cc) {x y z : Int64} (hg : mJ x y = some z) (hd : decode cc pc = .ok (.lrem, 1))
    (kk : W p l e R s m args below meth c H locs cells slots Q (F0 m (pc + 1) ls (.long z :: rest))) : W p l e R s m args below meth c H locs cells slots Q (F0 m pc ls (.long y :: .long x :: rest)) := by
  obtain ⟨h1, rfl⟩ := mJ_spec hg
  exact lv_lrem hx hb hd h1 kk
theorem bz_zretz (X : Cx p s m args c cc nL own P) (hM : Wd P M s H locs) (hr : meth.sig.returnType = some .boolean) (hlocks : meth.locks = false) {x v : Int32} (hg : zr x = some v) (hd : decode cc pc = .ok (.ireturn, 1)) {ms : Nat} (hc : cells ≤ mc) (hs : slots ≤ ms) : W p l e R s m args below meth c H locs cells slots (MQ below (Qp P (some (.int v)) M) args s mc ms (fun q => pB P ≤ q)) (F0 m pc ls [.int x]) := by
  obtain ⟨rfl, h⟩ := zr_spec hg
  exact bz_zret X hM hr hlocks h hd hc hs
theorem bz_putZz (X : Cx p s m args c cc nL own P) (hM : Wd P M s H locs) {fin : Bool} (hF : FP own index ci k .boolean fin) (hfin : fin = false ∨ meth.name = "<init>") {x z : Int32} (hz : zr x = some z) (hg : pF M ci a k (.int z) = some M') (hd : decode cc pc = .ok (.putfield index, 3))
    (kk : ∀ (H1 : Heap) (locs1 : List Loc), Wd P M' s H1 locs1 → W p l e R s m args below meth c H1 locs1 cells slots Q (F0 m (pc + 3) ls rest)) : W p l e R s m args below meth c H locs cells slots Q (F0 m pc ls (.int x :: .ref (pB P + a) :: rest)) := by
  obtain ⟨rfl, h⟩ := zr_spec hz
  exact bz_putZ X hM hF hfin h hg hd kk
theorem bz_zastz (X : Cx p s m args c cc nL own P) (hM : Wd P M s H locs) {i x z : Int32} (hz : zr x = some z) (hg : sI M 1 a i z = some M') (hd : decode cc pc = .ok (.bastore, 1))
    (kk : ∀ (H1 : Heap) (locs1 : List Loc), Wd P M' s H1 locs1 → W p l e R s m args below meth c H1 locs1 cells slots Q (F0 m (pc + 1) ls rest)) : W p l e R s m args below meth c H locs cells slots Q (F0 m pc ls (.int x :: .int i :: .ref (pB P + a) :: rest)) := by
  obtain ⟨rfl, h⟩ := zr_spec hz
  exact bz_zast X hM h hg hd kk
/-- a byte comes back: here 0 or 1 -/
theorem bz_bret (X : Cx p s m args c cc nL own P) (hM : Wd P M s H locs) (hr : meth.sig.returnType = some .byte) (hlocks : meth.locks = false) {v : Int32} (hv : v = 0 ∨ v = 1) (hd : decode cc pc = .ok (.ireturn, 1)) {ms : Nat} (hc : cells ≤ mc) (hs : slots ≤ ms) : W p l e R s m args below meth c H locs cells slots (MQ below (Qp P (some (.int v)) M) args s mc ms (fun q => pB P ≤ q)) (F0 m pc ls [.int v]) :=
  W.widen hc hs (W.zret X.1.1 X.1.2.1 hr (by rcases hv with rfl | rfl <;> rfl) (fun t ht _ => Qp.mk hM _ t ht) hM.2.2.2 hd hlocks)
theorem rm_ok {d b D mc maxL : Nat} (h : d ≤ b + D) (h2 : maxL ≤ 22) : d + 1 ≤ (rmd (b + D + 1) mc).frames ∧ 8 + (maxL + 11) + 41 * d ≤ (rmd (b + D + 1) mc).locals := by
  simp only [rmd]
  omega
end BD
