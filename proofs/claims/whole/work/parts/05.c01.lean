set_option maxHeartbeats 4000000 in
set_option maxRecDepth 100000 in
theorem wJ9_max_7cf53 {p : Program} {l : Launch} {e : Env} {s : State} {m : MethodId} {args : Array Value} {below : List Frame} {meth : Method} {c : Code} {P : PT}  {r9 : Int32} (hX : Cy p s m args c meth cJ9_max_7cf53 2 RJ9 "max" (some .int) P)  (M : Mm) (a0 : Int32) (a1 : Int32) (h : fJ9_max_7cf53 M a0 a1 = some r9) : Wq p l e s m args below meth c 0 0 (some (.int r9)) M 2 P 0 0 [(0, .int a0), (1, .int a1)] [] M := by
  unfold fJ9_max_7cf53 at h
  have hX0 := hX
  obtain ⟨X, hr, hlk, hnm⟩ := hX0
  have hx := X.1.1
  have hb := X.1.2.1
  intro H locs ls hM hl
  refine lv_iload_n (pc := 0) hx hb dJ9_max_7cf53_0 rfl (lv_at hl 0 rfl) ?_
  refine lv_iload_n (pc := 1) hx hb dJ9_max_7cf53_1 rfl (lv_at hl 1 rfl) ?_
  refine lv_icmp_lt (pc := 2) (tgt := 9) hx hb dJ9_max_7cf53_2 (by decide) (fun hc => ?_) (fun hc => ?_)
  · have h := if_t hc h
    refine lv_iload_n (pc := 9) hx hb dJ9_max_7cf53_9 rfl (lv_at hl 1 rfl) ?_
    obtain rfl := so1 h
    exact bz_iret (pc := 10) X hM hr hlk dJ9_max_7cf53_10 (Nat.le_of_ble_eq_true rfl) (Nat.le_of_ble_eq_true rfl)
  · have h := if_f hc h
    refine lv_iload_n (pc := 5) hx hb dJ9_max_7cf53_5 rfl (lv_at hl 0 rfl) ?_
    refine lv_goto (pc := 6) (tgt := 10) hx hb dJ9_max_7cf53_6 (by decide) ?_
    obtain rfl := so1 h
    exact bz_iret (pc := 10) X hM hr hlk dJ9_max_7cf53_10 (Nat.le_of_ble_eq_true rfl) (Nat.le_of_ble_eq_true rfl)
theorem ctJ9_max_7cf53 (l : Launch) {P : PT} {M : Mm} {a0 : Int32} {a1 : Int32} {r9 : Int32} (h : fJ9_max_7cf53 M a0 a1 = some r9) : Ct l yJ9_max_7cf53 cJ9_max_7cf53 2 (some .int) 0 0 P [.int a0, .int a1] M (some (.int r9)) M :=
  Ct.mk (by decide +kernel) (Nat.le_of_ble_eq_true rfl) (fun p e s m args below meth c hX => wJ9_max_7cf53 hX M a0 a1 h)
set_option maxHeartbeats 4000000 in
set_option maxRecDepth 100000 in
theorem wX3_init {p : Program} {l : Launch} {e : Env} {s : State} {m : MethodId} {args : Array Value} {below : List Frame} {meth : Method} {c : Code} {P : PT}  {M9 : Mm} (hX : Cy p s m args c meth cX3_init 2 RX3 "<init>" none P)  (M : Mm) (a0 : Nat) (a1 : Int32) (h : fX3_init M a0 a1 = some M9) : Wq p l e s m args below meth c 1 1 none M9 2 P 0 0 [(0, .ref (pB P + a0)), (1, .int a1)] [] M := by
  unfold fX3_init at h
  have hX0 := hX
  obtain ⟨X, hr, hlk, hnm⟩ := hX0
  have hx := X.1.1
  have hb := X.1.2.1
  intro H locs ls hM hl
  refine lv_aload_n (pc := 0) hx hb dX3_init_0 rfl (lv_at hl 0 rfl) ?_
  refine bz_obj (pc := 1) X hl.1 g_118 m_oi m_oc (Nat.le_of_ble_eq_true rfl) (Nat.le_of_ble_eq_true rfl) dX3_init_1 ?_
  refine lv_aload_n (pc := 4) hx hb dX3_init_4 rfl (lv_at hl 0 rfl) ?_
  refine lv_iconst (pc := 5) (v := (0 : Int32)) hx hb dX3_init_5 (by decide) ?_
  refine lv_iload_n (pc := 6) hx hb dX3_init_6 rfl (lv_at hl 1 rfl) ?_
  obtain ⟨v2, e1, h⟩ := ob h
  refine bz_callS1 (pc := 7) (As := [.int (0 : Int32), .int a1]) (rest := [.ref (pB P + a0)]) X hM hl.1 k_RX3_7 (ctJ9_max_7cf53 l e1) rfl rfl ⟨(Nat.le_of_ble_eq_true rfl), (Nat.le_of_ble_eq_true rfl)⟩ (Nat.le_of_ble_eq_true rfl) ⟨(Nat.le_of_ble_eq_true rfl), (Nat.le_of_ble_eq_true rfl)⟩ dX3_init_7 (fun H locs hM => ?_)
  obtain ⟨M3, e4, h⟩ := ob h
  refine bz_newa (pc := 10) X hM 0 .int (by decide) rfl (by decide) rfl g_129 e4 (Nat.le_of_ble_eq_true rfl) (Nat.le_of_ble_eq_true rfl) dX3_init_10 (fun H hM => ?_)
  obtain ⟨M5, e6, h⟩ := ob h
  refine bz_putQ (pc := 12) X hM fp_RX3_13 rfl (Or.inr hnm) e6 dX3_init_12 (fun H locs hM => ?_)
  obtain rfl := so1 h
  exact bz_vret (pc := 15) X hM hr hlk dX3_init_15 (Nat.le_of_ble_eq_true rfl) (Nat.le_of_ble_eq_true rfl)
theorem ctX3_init (l : Launch) {P : PT} {M : Mm} {a0 : Nat} {a1 : Int32} {M9 : Mm} (h : fX3_init M a0 a1 = some M9) : Ct l yX3_init cX3_init 2 none 1 1 P [.ref (pB P + a0), .int a1] M none M9 :=
  Ct.mk (by decide +kernel) (Nat.le_of_ble_eq_true rfl) (fun p e s m args below meth c hX => wX3_init hX M a0 a1 h)
set_option maxHeartbeats 4000000 in
set_option maxRecDepth 100000 in
theorem wX3_clear {p : Program} {l : Launch} {e : Env} {s : State} {m : MethodId} {args : Array Value} {below : List Frame} {meth : Method} {c : Code} {P : PT}  {M9 : Mm} (hX : Cy p s m args c meth cX3_clear 1 RX3 "clear" none P)  (M : Mm) (a0 : Nat) (h : fX3_clear M a0 = some M9) : Wq p l e s m args below meth c 0 0 none M9 1 P 0 0 [(0, .ref (pB P + a0))] [] M := by
  unfold fX3_clear at h
  obtain ⟨_, _, h⟩ := ob h
  have hX0 := hX
  obtain ⟨X, hr, hlk, hnm⟩ := hX0
  have hx := X.1.1
  have hb := X.1.2.1
  intro H locs ls hM hl
  refine lv_aload_n (pc := 0) hx hb dX3_clear_0 rfl (lv_at hl 0 rfl) ?_
  refine lv_iconst (pc := 1) (v := (0 : Int32)) hx hb dX3_clear_1 (by decide) ?_
  obtain ⟨M1, e2, h⟩ := ob h
  refine bz_putI (pc := 2) X hM fp_RX3_19 (Or.inl rfl) e2 dX3_clear_2 (fun H locs hM => ?_)
  obtain rfl := so1 h
  exact bz_vret (pc := 5) X hM hr hlk dX3_clear_5 (Nat.le_of_ble_eq_true rfl) (Nat.le_of_ble_eq_true rfl)
theorem rX3_clear {M : Mm} {a0 : Nat} {r9 : Mm} (h : fX3_clear M a0 = some r9) : ∃ fs, M[a0]? = some (.inr (3, fs)) := by
  unfold fX3_clear at h
  obtain ⟨_, e1, _⟩ := ob h
  exact gC_spec e1
theorem ctX3_clear (l : Launch) {P : PT} {M : Mm} {a0 : Nat} {M9 : Mm} (h : fX3_clear M a0 = some M9) : Ct l yX3_clear cX3_clear 1 none 0 0 P [.ref (pB P + a0)] M none M9 :=
  Ct.mk (by decide +kernel) (Nat.le_of_ble_eq_true rfl) (fun p e s m args below meth c hX => wX3_clear hX M a0 h)
set_option maxHeartbeats 4000000 in
set_option maxRecDepth 100000 in
theorem wX3_add {p : Program} {l : Launch} {e : Env} {s : State} {m : MethodId} {args : Array Value} {below : List Frame} {meth : Method} {c : Code} {P : PT}  {r9 : Int32} {M9 : Mm} (hX : Cy p s m args c meth cX3_add 2 RX3 "add" (some .boolean) P)  (M : Mm) (a0 : Nat) (a1 : Int32) (h : fX3_add M a0 a1 = some (r9, M9)) : Wq p l e s m args below meth c 0 0 (some (.int r9)) M9 2 P 0 0 [(0, .ref (pB P + a0)), (1, .int a1)] [] M := by
  unfold fX3_add at h
  obtain ⟨_, _, h⟩ := ob h
  have hX0 := hX
  obtain ⟨X, hr, hlk, hnm⟩ := hX0
  have hx := X.1.1
  have hb := X.1.2.1
  intro H locs ls hM hl
  refine lv_aload_n (pc := 0) hx hb dX3_add_0 rfl (lv_at hl 0 rfl) ?_
  obtain ⟨v1, e2, h⟩ := ob h
  refine bz_getI (pc := 1) X hM fl_RX3_19 e2 dX3_add_1 ?_
  refine lv_if_lt (pc := 4) (tgt := 19) hx hb dX3_add_4 (by decide) (fun hc => ?_) (fun hc => ?_)
  · have h := if_t hc h
    refine lv_iconst (pc := 19) (v := (0 : Int32)) hx hb dX3_add_19 (by decide) ?_
    obtain ⟨rfl, rfl⟩ := so2 h
    exact bz_zret (pc := 20) X hM hr hlk (by decide) dX3_add_20 (Nat.le_of_ble_eq_true rfl) (Nat.le_of_ble_eq_true rfl)
  · have h := if_f hc h
    refine lv_aload_n (pc := 7) hx hb dX3_add_7 rfl (lv_at hl 0 rfl) ?_
    obtain ⟨v3, e4, h⟩ := ob h
    refine bz_getI (pc := 8) X hM fl_RX3_19 e4 dX3_add_8 ?_
    refine lv_aload_n (pc := 11) hx hb dX3_add_11 rfl (lv_at hl 0 rfl) ?_
    obtain ⟨q5, e6, h⟩ := ob h
    refine bz_getQ (pc := 12) X hM fl_RX3_13 e6 dX3_add_12 ?_
    obtain ⟨v7, e8, h⟩ := ob h
    refine bz_alen (pc := 15) X hM e8 dX3_add_15 ?_
    refine lv_icmp_lt (pc := 16) (tgt := 21) hx hb dX3_add_16 (by decide) (fun hc => ?_) (fun hc => ?_)
    · have h := if_t hc h
      refine lv_aload_n (pc := 21) hx hb dX3_add_21 rfl (lv_at hl 0 rfl) ?_
      obtain ⟨q9, e10, h⟩ := ob h
      refine bz_getQ (pc := 22) X hM fl_RX3_13 e10 dX3_add_22 ?_
      refine lv_aload_n (pc := 25) hx hb dX3_add_25 rfl (lv_at hl 0 rfl) ?_
      obtain ⟨v11, e12, h⟩ := ob h
      refine bz_getI (pc := 26) X hM fl_RX3_19 e12 dX3_add_26 ?_
      refine lv_iload_n (pc := 29) hx hb dX3_add_29 rfl (lv_at hl 1 rfl) ?_
      obtain ⟨M13, e14, h⟩ := ob h
      refine bz_iast (pc := 30) X hM e14 dX3_add_30 (fun H locs hM => ?_)
      refine lv_aload_n (pc := 31) hx hb dX3_add_31 rfl (lv_at hl 0 rfl) ?_
      refine lv_dup (pc := 32) hx hb dX3_add_32 rfl ?_
      obtain ⟨v15, e16, h⟩ := ob h
      refine bz_getI (pc := 33) X hM fl_RX3_19 e16 dX3_add_33 ?_
      refine lv_iconst (pc := 36) (v := (1 : Int32)) hx hb dX3_add_36 (by decide) ?_
      refine lv_iadd (pc := 37) hx hb dX3_add_37 ?_
      obtain ⟨M17, e18, h⟩ := ob h
      refine bz_putI (pc := 38) X hM fp_RX3_19 (Or.inl rfl) e18 dX3_add_38 (fun H locs hM => ?_)
      refine lv_iconst (pc := 41) (v := (1 : Int32)) hx hb dX3_add_41 (by decide) ?_
      obtain ⟨rfl, rfl⟩ := so2 h
      exact bz_zret (pc := 42) X hM hr hlk (by decide) dX3_add_42 (Nat.le_of_ble_eq_true rfl) (Nat.le_of_ble_eq_true rfl)
    · have h := if_f hc h
      refine lv_iconst (pc := 19) (v := (0 : Int32)) hx hb dX3_add_19 (by decide) ?_
      obtain ⟨rfl, rfl⟩ := so2 h
      exact bz_zret (pc := 20) X hM hr hlk (by decide) dX3_add_20 (Nat.le_of_ble_eq_true rfl) (Nat.le_of_ble_eq_true rfl)
theorem rX3_add {M : Mm} {a0 : Nat} {a1 : Int32} {r9 : Int32 × Mm} (h : fX3_add M a0 a1 = some r9) : ∃ fs, M[a0]? = some (.inr (3, fs)) := by
  unfold fX3_add at h
  obtain ⟨_, e1, _⟩ := ob h
  exact gC_spec e1
theorem ctX3_add (l : Launch) {P : PT} {M : Mm} {a0 : Nat} {a1 : Int32} {r9 : Int32} {M9 : Mm} (h : fX3_add M a0 a1 = some (r9, M9)) : Ct l yX3_add cX3_add 2 (some .boolean) 0 0 P [.ref (pB P + a0), .int a1] M (some (.int r9)) M9 :=
  Ct.mk (by decide +kernel) (Nat.le_of_ble_eq_true rfl) (fun p e s m args below meth c hX => wX3_add hX M a0 a1 h)
set_option maxHeartbeats 4000000 in
set_option maxRecDepth 100000 in
theorem wBX3_fill_6 {p : Program} {l : Launch} {e : Env} {s : State} {m : MethodId} {args : Array Value} {below : List Frame} {meth : Method} {c : Code} {P : PT} {N : Nat} {K6 : Mm → Nat → Int32 → Int32 → Int32 → Option (Mm)}  {M9 : Mm} (hX : Cy p s m args c meth cX3_fill 4 RX3 "fill" none P)  (hK6 : ∀ (M : Mm) (x0 : Nat) (x1 : Int32) (x2 : Int32) (x3 : Int32), K6 M x0 x1 x2 x3 = some M9 → Wq p l e s m args below meth c 1 0 none M9 4 P 0 6 [(0, .ref (pB P + x0)), (1, .int x1), (2, .int x2), (3, .int x3)] [] M) (M : Mm) (x0 : Nat) (x1 : Int32) (x2 : Int32) (x3 : Int32)  (h : BX3_fill_6 N K6 M x0 x1 x2 x3 = some M9) : Wq p l e s m args below meth c 1 0 none M9 4 P 0 6 [(0, .ref (pB P + x0)), (1, .int x1), (2, .int x2), (3, .int x3)] [] M := by
  unfold BX3_fill_6 at h
  have hX0 := hX
  obtain ⟨X, hr, hlk, hnm⟩ := hX0
  have hx := X.1.1
  have hb := X.1.2.1
  intro H locs ls hM hl
  refine lv_iload_n (pc := 6) hx hb dX3_fill_6 rfl (lv_at hl 3 rfl) ?_
  refine lv_iload_n (pc := 7) hx hb dX3_fill_7 rfl (lv_at hl 1 rfl) ?_
  refine lv_icmp_ge (pc := 8) (tgt := 23) hx hb dX3_fill_8 (by decide) (fun hc => ?_) (fun hc => ?_)
  · have h := if_t hc h
    obtain rfl := so1 h
    exact bz_vret (pc := 23) X hM hr hlk dX3_fill_23 (Nat.le_of_ble_eq_true rfl) (Nat.le_of_ble_eq_true rfl)
  · have h := if_f hc h
    refine lv_aload_n (pc := 11) hx hb dX3_fill_11 rfl (lv_at hl 0 rfl) ?_
    refine lv_iload_n (pc := 12) hx hb dX3_fill_12 rfl (lv_at hl 2 rfl) ?_
    obtain ⟨v2, M3, e1, h⟩ := ob2 h
    obtain ⟨fs4, hb5⟩ := (rX3_add e1)
    refine bz_callV1 (pc := 13) (As := [.int x2]) (rest := []) X hM hl.1 k_RX3_26 (ctX3_add l e1) rfl hb5 rfl rfl ⟨(Nat.le_of_ble_eq_true rfl), (Nat.le_of_ble_eq_true rfl)⟩ (Nat.le_of_ble_eq_true rfl) ⟨(Nat.le_of_ble_eq_true rfl), (Nat.le_of_ble_eq_true rfl)⟩ dX3_fill_13 (fun H locs hM => ?_)
    refine lv_pop (pc := 16) hx hb dX3_fill_16 rfl ?_
    refine lv_iinc (pc := 17) (v := (x3 + (1 : Int32))) (lv' := [(3, .int (x3 + (1 : Int32))), (0, .ref (pB P + x0)), (1, .int x1), (2, .int x2)]) hx hb dX3_fill_17 hl (k := 3) rfl rfl (by decide) rfl (fun ls hl => ?_)
    refine lv_goto (pc := 20) (tgt := 6) hx hb dX3_fill_20 (by decide) ?_
    exact hK6 _ _ _ _ _ h H locs ls hM (lv_sub hl [1, 2, 3, 0] rfl)
set_option maxHeartbeats 4000000 in
set_option maxRecDepth 100000 in
theorem wLX3_fill_6 {p : Program} {l : Launch} {e : Env} {s : State} {m : MethodId} {args : Array Value} {below : List Frame} {meth : Method} {c : Code} {P : PT} {N : Nat}  {M9 : Mm} (hX : Cy p s m args c meth cX3_fill 4 RX3 "fill" none P)   : ∀ (n : Nat) (M : Mm) (x0 : Nat) (x1 : Int32) (x2 : Int32) (x3 : Int32) , LX3_fill_6 N n M x0 x1 x2 x3 = some M9 → Wq p l e s m args below meth c 1 0 none M9 4 P 0 6 [(0, .ref (pB P + x0)), (1, .int x1), (2, .int x2), (3, .int x3)] [] M := by
  intro n
  induction n with
  | zero => intro M x0 x1 x2 x3 h; cases h
  | succ n ih => intro M x0 x1 x2 x3 h; exact wBX3_fill_6 hX ih M x0 x1 x2 x3 h
set_option maxHeartbeats 4000000 in
set_option maxRecDepth 100000 in
theorem wX3_fill {p : Program} {l : Launch} {e : Env} {s : State} {m : MethodId} {args : Array Value} {below : List Frame} {meth : Method} {c : Code} {P : PT} {N : Nat}  {M9 : Mm} (hX : Cy p s m args c meth cX3_fill 4 RX3 "fill" none P)  (M : Mm) (a0 : Nat) (a1 : Int32) (a2 : Int32) (h : fX3_fill N M a0 a1 a2 = some M9) : Wq p l e s m args below meth c 1 0 none M9 4 P 0 0 [(0, .ref (pB P + a0)), (1, .int a1), (2, .int a2)] [] M := by
  unfold fX3_fill at h
  obtain ⟨_, _, h⟩ := ob h
  have hX0 := hX
  obtain ⟨X, hr, hlk, hnm⟩ := hX0
  have hx := X.1.1
  have hb := X.1.2.1
  intro H locs ls hM hl
  refine lv_aload_n (pc := 0) hx hb dX3_fill_0 rfl (lv_at hl 0 rfl) ?_
  obtain ⟨M2, e1, h⟩ := ob h
  obtain ⟨fs3, hb4⟩ := (rX3_clear e1)
  refine bz_callV0 (pc := 1) (As := []) (rest := []) X hM hl.1 k_RX3_23 (ctX3_clear l e1) rfl hb4 rfl rfl ⟨(Nat.le_of_ble_eq_true rfl), (Nat.le_of_ble_eq_true rfl)⟩ (Nat.le_of_ble_eq_true rfl) ⟨(Nat.le_of_ble_eq_true rfl), (Nat.le_of_ble_eq_true rfl)⟩ dX3_fill_1 (fun H locs hM => ?_)
  refine lv_iconst (pc := 4) (v := (0 : Int32)) hx hb dX3_fill_4 (by decide) ?_
  refine lv_istore_n (pc := 5) (lv' := [(3, .int (0 : Int32)), (0, .ref (pB P + a0)), (1, .int a1), (2, .int a2)]) hx hb dX3_fill_5 rfl hl (by decide) rfl (fun ls hl => ?_)
  exact wLX3_fill_6 hX _ _ _ _ _ _ h H locs ls hM (lv_sub hl [1, 2, 3, 0] rfl)
theorem rX3_fill {N : Nat} {M : Mm} {a0 : Nat} {a1 : Int32} {a2 : Int32} {r9 : Mm} (h : fX3_fill N M a0 a1 a2 = some r9) : ∃ fs, M[a0]? = some (.inr (3, fs)) := by
  unfold fX3_fill at h
  obtain ⟨_, e1, _⟩ := ob h
  exact gC_spec e1
theorem ctX3_fill (l : Launch) {P : PT} {N : Nat} {M : Mm} {a0 : Nat} {a1 : Int32} {a2 : Int32} {M9 : Mm} (h : fX3_fill N M a0 a1 a2 = some M9) : Ct l yX3_fill cX3_fill 4 none 1 0 P [.ref (pB P + a0), .int a1, .int a2] M none M9 :=
  Ct.mk (by decide +kernel) (Nat.le_of_ble_eq_true rfl) (fun p e s m args below meth c hX => wX3_fill hX M a0 a1 a2 h)
set_option maxHeartbeats 4000000 in
set_option maxRecDepth 100000 in
theorem wX6_init {p : Program} {l : Launch} {e : Env} {s : State} {m : MethodId} {args : Array Value} {below : List Frame} {meth : Method} {c : Code} {P : PT} {N : Nat}  {M9 : Mm} (hX : Cy p s m args c meth cX6_init 1 RX6 "<init>" none P)  (M : Mm) (a0 : Nat) (h : fX6_init N M a0 = some M9) : Wq p l e s m args below meth c 2 28 none M9 1 P 0 0 [(0, .ref (pB P + a0))] [] M := by
  unfold fX6_init at h
  have hX0 := hX
  obtain ⟨X, hr, hlk, hnm⟩ := hX0
  have hx := X.1.1
  have hb := X.1.2.1
  intro H locs ls hM hl
  refine lv_aload_n (pc := 0) hx hb dX6_init_0 rfl (lv_at hl 0 rfl) ?_
  refine bz_obj (pc := 1) X hl.1 g_112 m_oi m_oc (Nat.le_of_ble_eq_true rfl) (Nat.le_of_ble_eq_true rfl) dX6_init_1 ?_
  refine lv_aload_n (pc := 4) hx hb dX6_init_4 rfl (lv_at hl 0 rfl) ?_
  obtain ⟨M1, e2, h⟩ := ob h
  cases e2
  refine bz_new (pc := 5) X hM cfX3 g_113 g_114 g_82 [.null, .int 0] (fun j hj => by rcases (show j = 0 ∨ j = 1 by omega) with rfl | rfl <;> rfl) rfl (Nat.le_of_ble_eq_true rfl) (Nat.le_of_ble_eq_true rfl) dX6_init_5 (fun H hM => ?_)
  refine lv_dup (pc := 8) hx hb dX6_init_8 rfl ?_
  refine lv_iconst (pc := 9) (v := (3 : Int32)) hx hb dX6_init_9 (by decide) ?_
  obtain ⟨M4, e3, h⟩ := ob h
  refine bz_callI (pc := 10) (As := [.int (3 : Int32)]) (rest := [.ref (pB P + M.length), .ref (pB P + a0)]) X hM hl.1 k_RX6_11 (ctX3_init l e3) rfl rfl ⟨(Nat.le_of_ble_eq_true rfl), (Nat.le_of_ble_eq_true rfl)⟩ (Nat.le_of_ble_eq_true rfl) ⟨(Nat.le_of_ble_eq_true rfl), (Nat.le_of_ble_eq_true rfl)⟩ dX6_init_10 (fun H locs hM => ?_)
  obtain ⟨M5, e6, h⟩ := ob h
  refine bz_putQ (pc := 13) X hM fp_RX6_14 rfl (Or.inr hnm) e6 dX6_init_13 (fun H locs hM => ?_)
  refine lv_aload_n (pc := 16) hx hb dX6_init_16 rfl (lv_at hl 0 rfl) ?_
  obtain ⟨M7, e8, h⟩ := ob h
  cases e8
  refine bz_new (pc := 17) X hM cfX3 g_113 g_114 g_82 [.null, .int 0] (fun j hj => by rcases (show j = 0 ∨ j = 1 by omega) with rfl | rfl <;> rfl) rfl (Nat.le_of_ble_eq_true rfl) (Nat.le_of_ble_eq_true rfl) dX6_init_17 (fun H hM => ?_)
  refine lv_dup (pc := 20) hx hb dX6_init_20 rfl ?_
  refine lv_bipush (pc := 21) (v := (6 : Int32)) hx hb dX6_init_21 (by decide) ?_
  obtain ⟨M10, e9, h⟩ := ob h
  refine bz_callI (pc := 23) (As := [.int (6 : Int32)]) (rest := [.ref (pB P + M5.length), .ref (pB P + a0)]) X hM hl.1 k_RX6_11 (ctX3_init l e9) rfl rfl ⟨(Nat.le_of_ble_eq_true rfl), (Nat.le_of_ble_eq_true rfl)⟩ (Nat.le_of_ble_eq_true rfl) ⟨(Nat.le_of_ble_eq_true rfl), (Nat.le_of_ble_eq_true rfl)⟩ dX6_init_23 (fun H locs hM => ?_)
  obtain ⟨M11, e12, h⟩ := ob h
  refine bz_putQ (pc := 26) X hM fp_RX6_20 rfl (Or.inr hnm) e12 dX6_init_26 (fun H locs hM => ?_)
  refine lv_aload_n (pc := 29) hx hb dX6_init_29 rfl (lv_at hl 0 rfl) ?_
  obtain ⟨M13, e14, h⟩ := ob h
  cases e14
  refine bz_new (pc := 30) X hM cfX3 g_113 g_114 g_82 [.null, .int 0] (fun j hj => by rcases (show j = 0 ∨ j = 1 by omega) with rfl | rfl <;> rfl) rfl (Nat.le_of_ble_eq_true rfl) (Nat.le_of_ble_eq_true rfl) dX6_init_30 (fun H hM => ?_)
  refine lv_dup (pc := 33) hx hb dX6_init_33 rfl ?_
  refine lv_bipush (pc := 34) (v := (96 : Int32)) hx hb dX6_init_34 (by decide) ?_
  obtain ⟨M16, e15, h⟩ := ob h
  refine bz_callI (pc := 36) (As := [.int (96 : Int32)]) (rest := [.ref (pB P + M11.length), .ref (pB P + a0)]) X hM hl.1 k_RX6_11 (ctX3_init l e15) rfl rfl ⟨(Nat.le_of_ble_eq_true rfl), (Nat.le_of_ble_eq_true rfl)⟩ (Nat.le_of_ble_eq_true rfl) ⟨(Nat.le_of_ble_eq_true rfl), (Nat.le_of_ble_eq_true rfl)⟩ dX6_init_36 (fun H locs hM => ?_)
  obtain ⟨M17, e18, h⟩ := ob h
  refine bz_putQ (pc := 39) X hM fp_RX6_23 rfl (Or.inr hnm) e18 dX6_init_39 (fun H locs hM => ?_)
  refine lv_aload_n (pc := 42) hx hb dX6_init_42 rfl (lv_at hl 0 rfl) ?_
  obtain ⟨M19, e20, h⟩ := ob h
  cases e20
  refine bz_new (pc := 43) X hM cfX3 g_113 g_114 g_82 [.null, .int 0] (fun j hj => by rcases (show j = 0 ∨ j = 1 by omega) with rfl | rfl <;> rfl) rfl (Nat.le_of_ble_eq_true rfl) (Nat.le_of_ble_eq_true rfl) dX6_init_43 (fun H hM => ?_)
  refine lv_dup (pc := 46) hx hb dX6_init_46 rfl ?_
  refine lv_bipush (pc := 47) (v := (96 : Int32)) hx hb dX6_init_47 (by decide) ?_
  obtain ⟨M22, e21, h⟩ := ob h
  refine bz_callI (pc := 49) (As := [.int (96 : Int32)]) (rest := [.ref (pB P + M17.length), .ref (pB P + a0)]) X hM hl.1 k_RX6_11 (ctX3_init l e21) rfl rfl ⟨(Nat.le_of_ble_eq_true rfl), (Nat.le_of_ble_eq_true rfl)⟩ (Nat.le_of_ble_eq_true rfl) ⟨(Nat.le_of_ble_eq_true rfl), (Nat.le_of_ble_eq_true rfl)⟩ dX6_init_49 (fun H locs hM => ?_)
  obtain ⟨M23, e24, h⟩ := ob h
  refine bz_putQ (pc := 52) X hM fp_RX6_26 rfl (Or.inr hnm) e24 dX6_init_52 (fun H locs hM => ?_)
  refine lv_aload_n (pc := 55) hx hb dX6_init_55 rfl (lv_at hl 0 rfl) ?_
  obtain ⟨M25, e26, h⟩ := ob h
  cases e26
  refine bz_new (pc := 56) X hM cfX3 g_113 g_114 g_82 [.null, .int 0] (fun j hj => by rcases (show j = 0 ∨ j = 1 by omega) with rfl | rfl <;> rfl) rfl (Nat.le_of_ble_eq_true rfl) (Nat.le_of_ble_eq_true rfl) dX6_init_56 (fun H hM => ?_)
  refine lv_dup (pc := 59) hx hb dX6_init_59 rfl ?_
  refine lv_bipush (pc := 60) (v := (96 : Int32)) hx hb dX6_init_60 (by decide) ?_
  obtain ⟨M28, e27, h⟩ := ob h
  refine bz_callI (pc := 62) (As := [.int (96 : Int32)]) (rest := [.ref (pB P + M23.length), .ref (pB P + a0)]) X hM hl.1 k_RX6_11 (ctX3_init l e27) rfl rfl ⟨(Nat.le_of_ble_eq_true rfl), (Nat.le_of_ble_eq_true rfl)⟩ (Nat.le_of_ble_eq_true rfl) ⟨(Nat.le_of_ble_eq_true rfl), (Nat.le_of_ble_eq_true rfl)⟩ dX6_init_62 (fun H locs hM => ?_)
  obtain ⟨M29, e30, h⟩ := ob h
  refine bz_putQ (pc := 65) X hM fp_RX6_29 rfl (Or.inr hnm) e30 dX6_init_65 (fun H locs hM => ?_)
  refine lv_aload_n (pc := 68) hx hb dX6_init_68 rfl (lv_at hl 0 rfl) ?_
  obtain ⟨M31, e32, h⟩ := ob h
  cases e32
  refine bz_new (pc := 69) X hM cfX3 g_113 g_114 g_82 [.null, .int 0] (fun j hj => by rcases (show j = 0 ∨ j = 1 by omega) with rfl | rfl <;> rfl) rfl (Nat.le_of_ble_eq_true rfl) (Nat.le_of_ble_eq_true rfl) dX6_init_69 (fun H hM => ?_)
  refine lv_dup (pc := 72) hx hb dX6_init_72 rfl ?_
  refine lv_bipush (pc := 73) (v := (50 : Int32)) hx hb dX6_init_73 (by decide) ?_
  obtain ⟨M34, e33, h⟩ := ob h
  refine bz_callI (pc := 75) (As := [.int (50 : Int32)]) (rest := [.ref (pB P + M29.length), .ref (pB P + a0)]) X hM hl.1 k_RX6_11 (ctX3_init l e33) rfl rfl ⟨(Nat.le_of_ble_eq_true rfl), (Nat.le_of_ble_eq_true rfl)⟩ (Nat.le_of_ble_eq_true rfl) ⟨(Nat.le_of_ble_eq_true rfl), (Nat.le_of_ble_eq_true rfl)⟩ dX6_init_75 (fun H locs hM => ?_)
  obtain ⟨M35, e36, h⟩ := ob h
  refine bz_putQ (pc := 78) X hM fp_RX6_32 rfl (Or.inr hnm) e36 dX6_init_78 (fun H locs hM => ?_)
  refine lv_aload_n (pc := 81) hx hb dX6_init_81 rfl (lv_at hl 0 rfl) ?_
  refine lv_bipush (pc := 82) (v := (9 : Int32)) hx hb dX6_init_82 (by decide) ?_
  obtain ⟨M37, e38, h⟩ := ob h
  refine bz_newq (pc := 84) X hM 2 (by decide) rfl g_130 (fun _ h => h.2.1) e38 (Nat.le_of_ble_eq_true rfl) (Nat.le_of_ble_eq_true rfl) dX6_init_84 (fun H hM => ?_)
  obtain ⟨M39, e40, h⟩ := ob h
  refine bz_putQ (pc := 87) X hM fp_RX6_37 rfl (Or.inr hnm) e40 dX6_init_87 (fun H locs hM => ?_)
  refine lv_aload_n (pc := 90) hx hb dX6_init_90 rfl (lv_at hl 0 rfl) ?_
  refine lv_bipush (pc := 91) (v := (12 : Int32)) hx hb dX6_init_91 (by decide) ?_
  obtain ⟨M41, e42, h⟩ := ob h
  refine bz_newq (pc := 93) X hM 3 (by decide) rfl g_132 (fun _ h => h.2.2.1) e42 (Nat.le_of_ble_eq_true rfl) (Nat.le_of_ble_eq_true rfl) dX6_init_93 (fun H hM => ?_)
  obtain ⟨M43, e44, h⟩ := ob h
  refine bz_putQ (pc := 96) X hM fp_RX6_43 rfl (Or.inr hnm) e44 dX6_init_96 (fun H locs hM => ?_)
  refine lv_aload_n (pc := 99) hx hb dX6_init_99 rfl (lv_at hl 0 rfl) ?_
  obtain ⟨M45, e46, h⟩ := ob h
  cases e46
  refine bz_new (pc := 100) X hM cfX3 g_113 g_114 g_82 [.null, .int 0] (fun j hj => by rcases (show j = 0 ∨ j = 1 by omega) with rfl | rfl <;> rfl) rfl (Nat.le_of_ble_eq_true rfl) (Nat.le_of_ble_eq_true rfl) dX6_init_100 (fun H hM => ?_)
  refine lv_dup (pc := 103) hx hb dX6_init_103 rfl ?_
  refine lv_bipush (pc := 104) (v := (6 : Int32)) hx hb dX6_init_104 (by decide) ?_
  obtain ⟨M48, e47, h⟩ := ob h
  refine bz_callI (pc := 106) (As := [.int (6 : Int32)]) (rest := [.ref (pB P + M43.length), .ref (pB P + a0)]) X hM hl.1 k_RX6_11 (ctX3_init l e47) rfl rfl ⟨(Nat.le_of_ble_eq_true rfl), (Nat.le_of_ble_eq_true rfl)⟩ (Nat.le_of_ble_eq_true rfl) ⟨(Nat.le_of_ble_eq_true rfl), (Nat.le_of_ble_eq_true rfl)⟩ dX6_init_106 (fun H locs hM => ?_)
  obtain ⟨M49, e50, h⟩ := ob h
  refine bz_putQ (pc := 109) X hM fp_RX6_47 rfl (Or.inr hnm) e50 dX6_init_109 (fun H locs hM => ?_)
  refine lv_aload_n (pc := 112) hx hb dX6_init_112 rfl (lv_at hl 0 rfl) ?_
  obtain ⟨M51, e52, h⟩ := ob h
  cases e52
  refine bz_new (pc := 113) X hM cfX3 g_113 g_114 g_82 [.null, .int 0] (fun j hj => by rcases (show j = 0 ∨ j = 1 by omega) with rfl | rfl <;> rfl) rfl (Nat.le_of_ble_eq_true rfl) (Nat.le_of_ble_eq_true rfl) dX6_init_113 (fun H hM => ?_)
  refine lv_dup (pc := 116) hx hb dX6_init_116 rfl ?_
  refine lv_bipush (pc := 117) (v := (10 : Int32)) hx hb dX6_init_117 (by decide) ?_
  obtain ⟨M54, e53, h⟩ := ob h
  refine bz_callI (pc := 119) (As := [.int (10 : Int32)]) (rest := [.ref (pB P + M49.length), .ref (pB P + a0)]) X hM hl.1 k_RX6_11 (ctX3_init l e53) rfl rfl ⟨(Nat.le_of_ble_eq_true rfl), (Nat.le_of_ble_eq_true rfl)⟩ (Nat.le_of_ble_eq_true rfl) ⟨(Nat.le_of_ble_eq_true rfl), (Nat.le_of_ble_eq_true rfl)⟩ dX6_init_119 (fun H locs hM => ?_)
  obtain ⟨M55, e56, h⟩ := ob h
  refine bz_putQ (pc := 122) X hM fp_RX6_50 rfl (Or.inr hnm) e56 dX6_init_122 (fun H locs hM => ?_)
  refine lv_aload_n (pc := 125) hx hb dX6_init_125 rfl (lv_at hl 0 rfl) ?_
  obtain ⟨M57, e58, h⟩ := ob h
  cases e58
  refine bz_new (pc := 126) X hM cfX3 g_113 g_114 g_82 [.null, .int 0] (fun j hj => by rcases (show j = 0 ∨ j = 1 by omega) with rfl | rfl <;> rfl) rfl (Nat.le_of_ble_eq_true rfl) (Nat.le_of_ble_eq_true rfl) dX6_init_126 (fun H hM => ?_)
  refine lv_dup (pc := 129) hx hb dX6_init_129 rfl ?_
  refine lv_bipush (pc := 130) (v := (6 : Int32)) hx hb dX6_init_130 (by decide) ?_
  obtain ⟨M60, e59, h⟩ := ob h
  refine bz_callI (pc := 132) (As := [.int (6 : Int32)]) (rest := [.ref (pB P + M55.length), .ref (pB P + a0)]) X hM hl.1 k_RX6_11 (ctX3_init l e59) rfl rfl ⟨(Nat.le_of_ble_eq_true rfl), (Nat.le_of_ble_eq_true rfl)⟩ (Nat.le_of_ble_eq_true rfl) ⟨(Nat.le_of_ble_eq_true rfl), (Nat.le_of_ble_eq_true rfl)⟩ dX6_init_132 (fun H locs hM => ?_)
  obtain ⟨M61, e62, h⟩ := ob h
  refine bz_putQ (pc := 135) X hM fp_RX6_53 rfl (Or.inr hnm) e62 dX6_init_135 (fun H locs hM => ?_)
  refine lv_aload_n (pc := 138) hx hb dX6_init_138 rfl (lv_at hl 0 rfl) ?_
  obtain ⟨M63, e64, h⟩ := ob h
  cases e64
  refine bz_new (pc := 139) X hM cfX3 g_113 g_114 g_82 [.null, .int 0] (fun j hj => by rcases (show j = 0 ∨ j = 1 by omega) with rfl | rfl <;> rfl) rfl (Nat.le_of_ble_eq_true rfl) (Nat.le_of_ble_eq_true rfl) dX6_init_139 (fun H hM => ?_)
  refine lv_dup (pc := 142) hx hb dX6_init_142 rfl ?_
  refine lv_bipush (pc := 143) (v := (8 : Int32)) hx hb dX6_init_143 (by decide) ?_
  obtain ⟨M66, e65, h⟩ := ob h
  refine bz_callI (pc := 145) (As := [.int (8 : Int32)]) (rest := [.ref (pB P + M61.length), .ref (pB P + a0)]) X hM hl.1 k_RX6_11 (ctX3_init l e65) rfl rfl ⟨(Nat.le_of_ble_eq_true rfl), (Nat.le_of_ble_eq_true rfl)⟩ (Nat.le_of_ble_eq_true rfl) ⟨(Nat.le_of_ble_eq_true rfl), (Nat.le_of_ble_eq_true rfl)⟩ dX6_init_145 (fun H locs hM => ?_)
  obtain ⟨M67, e68, h⟩ := ob h
  refine bz_putQ (pc := 148) X hM fp_RX6_56 rfl (Or.inr hnm) e68 dX6_init_148 (fun H locs hM => ?_)
  refine lv_aload_n (pc := 151) hx hb dX6_init_151 rfl (lv_at hl 0 rfl) ?_
  obtain ⟨M69, e70, h⟩ := ob h
  cases e70
  refine bz_new (pc := 152) X hM cfX3 g_113 g_114 g_82 [.null, .int 0] (fun j hj => by rcases (show j = 0 ∨ j = 1 by omega) with rfl | rfl <;> rfl) rfl (Nat.le_of_ble_eq_true rfl) (Nat.le_of_ble_eq_true rfl) dX6_init_152 (fun H hM => ?_)
  refine lv_dup (pc := 155) hx hb dX6_init_155 rfl ?_
  refine lv_bipush (pc := 156) (v := (8 : Int32)) hx hb dX6_init_156 (by decide) ?_
  obtain ⟨M72, e71, h⟩ := ob h
  refine bz_callI (pc := 158) (As := [.int (8 : Int32)]) (rest := [.ref (pB P + M67.length), .ref (pB P + a0)]) X hM hl.1 k_RX6_11 (ctX3_init l e71) rfl rfl ⟨(Nat.le_of_ble_eq_true rfl), (Nat.le_of_ble_eq_true rfl)⟩ (Nat.le_of_ble_eq_true rfl) ⟨(Nat.le_of_ble_eq_true rfl), (Nat.le_of_ble_eq_true rfl)⟩ dX6_init_158 (fun H locs hM => ?_)
  obtain ⟨M73, e74, h⟩ := ob h
  refine bz_putQ (pc := 161) X hM fp_RX6_59 rfl (Or.inr hnm) e74 dX6_init_161 (fun H locs hM => ?_)
  refine lv_aload_n (pc := 164) hx hb dX6_init_164 rfl (lv_at hl 0 rfl) ?_
  obtain ⟨M75, e76, h⟩ := ob h
  cases e76
  refine bz_new (pc := 165) X hM cfX3 g_113 g_114 g_82 [.null, .int 0] (fun j hj => by rcases (show j = 0 ∨ j = 1 by omega) with rfl | rfl <;> rfl) rfl (Nat.le_of_ble_eq_true rfl) (Nat.le_of_ble_eq_true rfl) dX6_init_165 (fun H hM => ?_)
  refine lv_dup (pc := 168) hx hb dX6_init_168 rfl ?_
  refine lv_bipush (pc := 169) (v := (8 : Int32)) hx hb dX6_init_169 (by decide) ?_
  obtain ⟨M78, e77, h⟩ := ob h
  refine bz_callI (pc := 171) (As := [.int (8 : Int32)]) (rest := [.ref (pB P + M73.length), .ref (pB P + a0)]) X hM hl.1 k_RX6_11 (ctX3_init l e77) rfl rfl ⟨(Nat.le_of_ble_eq_true rfl), (Nat.le_of_ble_eq_true rfl)⟩ (Nat.le_of_ble_eq_true rfl) ⟨(Nat.le_of_ble_eq_true rfl), (Nat.le_of_ble_eq_true rfl)⟩ dX6_init_171 (fun H locs hM => ?_)
  obtain ⟨M79, e80, h⟩ := ob h
  refine bz_putQ (pc := 174) X hM fp_RX6_62 rfl (Or.inr hnm) e80 dX6_init_174 (fun H locs hM => ?_)
  refine lv_aload_n (pc := 177) hx hb dX6_init_177 rfl (lv_at hl 0 rfl) ?_
  obtain ⟨M81, e82, h⟩ := ob h
  cases e82
  refine bz_new (pc := 178) X hM cfX3 g_113 g_114 g_82 [.null, .int 0] (fun j hj => by rcases (show j = 0 ∨ j = 1 by omega) with rfl | rfl <;> rfl) rfl (Nat.le_of_ble_eq_true rfl) (Nat.le_of_ble_eq_true rfl) dX6_init_178 (fun H hM => ?_)
  refine lv_dup (pc := 181) hx hb dX6_init_181 rfl ?_
  refine lv_bipush (pc := 182) (v := (20 : Int32)) hx hb dX6_init_182 (by decide) ?_
  obtain ⟨M84, e83, h⟩ := ob h
  refine bz_callI (pc := 184) (As := [.int (20 : Int32)]) (rest := [.ref (pB P + M79.length), .ref (pB P + a0)]) X hM hl.1 k_RX6_11 (ctX3_init l e83) rfl rfl ⟨(Nat.le_of_ble_eq_true rfl), (Nat.le_of_ble_eq_true rfl)⟩ (Nat.le_of_ble_eq_true rfl) ⟨(Nat.le_of_ble_eq_true rfl), (Nat.le_of_ble_eq_true rfl)⟩ dX6_init_184 (fun H locs hM => ?_)
  obtain ⟨M85, e86, h⟩ := ob h
  refine bz_putQ (pc := 187) X hM fp_RX6_65 rfl (Or.inr hnm) e86 dX6_init_187 (fun H locs hM => ?_)
  refine lv_aload_n (pc := 190) hx hb dX6_init_190 rfl (lv_at hl 0 rfl) ?_
  refine lv_iconst (pc := 191) (v := (1 : Int32)) hx hb dX6_init_191 (by decide) ?_
  obtain ⟨M87, e88, h⟩ := ob h
  refine bz_putI (pc := 192) X hM fp_RX6_68 (Or.inl rfl) e88 dX6_init_192 (fun H locs hM => ?_)
  refine lv_aload_n (pc := 195) hx hb dX6_init_195 rfl (lv_at hl 0 rfl) ?_
  obtain ⟨q89, e90, h⟩ := ob h
  refine bz_getQ (pc := 196) X hM fl_RX6_14 e90 dX6_init_196 ?_
  refine lv_iconst (pc := 199) (v := (3 : Int32)) hx hb dX6_init_199 (by decide) ?_
  refine lv_iconst (pc := 200) (v := (0 : Int32)) hx hb dX6_init_200 (by decide) ?_
  obtain ⟨M92, e91, h⟩ := ob h
  obtain ⟨fs93, hb94⟩ := (rX3_fill e91)
  refine bz_callV0 (pc := 201) (As := [.int (3 : Int32), .int (0 : Int32)]) (rest := []) X hM hl.1 k_RX6_72 (ctX3_fill l e91) rfl hb94 rfl rfl ⟨(Nat.le_of_ble_eq_true rfl), (Nat.le_of_ble_eq_true rfl)⟩ (Nat.le_of_ble_eq_true rfl) ⟨(Nat.le_of_ble_eq_true rfl), (Nat.le_of_ble_eq_true rfl)⟩ dX6_init_201 (fun H locs hM => ?_)
  refine lv_aload_n (pc := 204) hx hb dX6_init_204 rfl (lv_at hl 0 rfl) ?_
  obtain ⟨q95, e96, h⟩ := ob h
  refine bz_getQ (pc := 205) X hM fl_RX6_53 e96 dX6_init_205 ?_
  refine lv_bipush (pc := 208) (v := (6 : Int32)) hx hb dX6_init_208 (by decide) ?_
  refine lv_iconst (pc := 210) (v := (1 : Int32)) hx hb dX6_init_210 (by decide) ?_
  obtain ⟨M98, e97, h⟩ := ob h
  obtain ⟨fs99, hb100⟩ := (rX3_fill e97)
  refine bz_callV0 (pc := 211) (As := [.int (6 : Int32), .int (1 : Int32)]) (rest := []) X hM hl.1 k_RX6_72 (ctX3_fill l e97) rfl hb100 rfl rfl ⟨(Nat.le_of_ble_eq_true rfl), (Nat.le_of_ble_eq_true rfl)⟩ (Nat.le_of_ble_eq_true rfl) ⟨(Nat.le_of_ble_eq_true rfl), (Nat.le_of_ble_eq_true rfl)⟩ dX6_init_211 (fun H locs hM => ?_)
  refine lv_aload_n (pc := 214) hx hb dX6_init_214 rfl (lv_at hl 0 rfl) ?_
  obtain ⟨q101, e102, h⟩ := ob h
  refine bz_getQ (pc := 215) X hM fl_RX6_56 e102 dX6_init_215 ?_
  refine lv_bipush (pc := 218) (v := (8 : Int32)) hx hb dX6_init_218 (by decide) ?_
  refine lv_iconst (pc := 220) (v := (0 : Int32)) hx hb dX6_init_220 (by decide) ?_
  obtain ⟨M104, e103, h⟩ := ob h
  obtain ⟨fs105, hb106⟩ := (rX3_fill e103)
  refine bz_callV0 (pc := 221) (As := [.int (8 : Int32), .int (0 : Int32)]) (rest := []) X hM hl.1 k_RX6_72 (ctX3_fill l e103) rfl hb106 rfl rfl ⟨(Nat.le_of_ble_eq_true rfl), (Nat.le_of_ble_eq_true rfl)⟩ (Nat.le_of_ble_eq_true rfl) ⟨(Nat.le_of_ble_eq_true rfl), (Nat.le_of_ble_eq_true rfl)⟩ dX6_init_221 (fun H locs hM => ?_)
  obtain rfl := so1 h
  exact bz_vret (pc := 224) X hM hr hlk dX6_init_224 (Nat.le_of_ble_eq_true rfl) (Nat.le_of_ble_eq_true rfl)
theorem ctX6_init (l : Launch) {P : PT} {N : Nat} {M : Mm} {a0 : Nat} {M9 : Mm} (h : fX6_init N M a0 = some M9) : Ct l yX6_init cX6_init 1 none 2 28 P [.ref (pB P + a0)] M none M9 :=
  Ct.mk (by decide +kernel) (Nat.le_of_ble_eq_true rfl) (fun p e s m args below meth c hX => wX6_init hX M a0 h)
set_option maxHeartbeats 4000000 in
set_option maxRecDepth 100000 in
theorem wX4_init {p : Program} {l : Launch} {e : Env} {s : State} {m : MethodId} {args : Array Value} {below : List Frame} {meth : Method} {c : Code} {P : PT}  {M9 : Mm} (hX : Cy p s m args c meth cX4_init 1 RX4 "<init>" none P)  (M : Mm) (a0 : Nat) (h : fX4_init M a0 = some M9) : Wq p l e s m args below meth c 2 2 none M9 1 P 0 0 [(0, .ref (pB P + a0))] [] M := by
  unfold fX4_init at h
  have hX0 := hX
  obtain ⟨X, hr, hlk, hnm⟩ := hX0
  have hx := X.1.1
  have hb := X.1.2.1
  intro H locs ls hM hl
  refine lv_aload_n (pc := 0) hx hb dX4_init_0 rfl (lv_at hl 0 rfl) ?_
  refine bz_obj (pc := 1) X hl.1 g_224 m_oi m_oc (Nat.le_of_ble_eq_true rfl) (Nat.le_of_ble_eq_true rfl) dX4_init_1 ?_
  refine lv_aload_n (pc := 4) hx hb dX4_init_4 rfl (lv_at hl 0 rfl) ?_
  obtain ⟨M1, e2, h⟩ := ob h
  cases e2
  refine bz_new (pc := 5) X hM cfX3 g_225 g_114 g_82 [.null, .int 0] (fun j hj => by rcases (show j = 0 ∨ j = 1 by omega) with rfl | rfl <;> rfl) rfl (Nat.le_of_ble_eq_true rfl) (Nat.le_of_ble_eq_true rfl) dX4_init_5 (fun H hM => ?_)
  refine lv_dup (pc := 8) hx hb dX4_init_8 rfl ?_
  refine lv_bipush (pc := 9) (v := (40 : Int32)) hx hb dX4_init_9 (by decide) ?_
  obtain ⟨M4, e3, h⟩ := ob h
  refine bz_callI (pc := 11) (As := [.int (40 : Int32)]) (rest := [.ref (pB P + M.length), .ref (pB P + a0)]) X hM hl.1 k_RX4_11 (ctX3_init l e3) rfl rfl ⟨(Nat.le_of_ble_eq_true rfl), (Nat.le_of_ble_eq_true rfl)⟩ (Nat.le_of_ble_eq_true rfl) ⟨(Nat.le_of_ble_eq_true rfl), (Nat.le_of_ble_eq_true rfl)⟩ dX4_init_11 (fun H locs hM => ?_)
  obtain ⟨M5, e6, h⟩ := ob h
  refine bz_putQ (pc := 14) X hM fp_RX4_14 rfl (Or.inr hnm) e6 dX4_init_14 (fun H locs hM => ?_)
  obtain rfl := so1 h
  exact bz_vret (pc := 17) X hM hr hlk dX4_init_17 (Nat.le_of_ble_eq_true rfl) (Nat.le_of_ble_eq_true rfl)
theorem ctX4_init (l : Launch) {P : PT} {M : Mm} {a0 : Nat} {M9 : Mm} (h : fX4_init M a0 = some M9) : Ct l yX4_init cX4_init 1 none 2 2 P [.ref (pB P + a0)] M none M9 :=
  Ct.mk (by decide +kernel) (Nat.le_of_ble_eq_true rfl) (fun p e s m args below meth c hX => wX4_init hX M a0 h)
set_option maxHeartbeats 4000000 in
set_option maxRecDepth 100000 in
theorem wX7_init {p : Program} {l : Launch} {e : Env} {s : State} {m : MethodId} {args : Array Value} {below : List Frame} {meth : Method} {c : Code} {P : PT}  {M9 : Mm} (hX : Cy p s m args c meth cX7_init 1 RX7 "<init>" none P)  (M : Mm) (a0 : Nat) (h : fX7_init M a0 = some M9) : Wq p l e s m args below meth c 2 14 none M9 1 P 0 0 [(0, .ref (pB P + a0))] [] M := by
  unfold fX7_init at h
  have hX0 := hX
  obtain ⟨X, hr, hlk, hnm⟩ := hX0
  have hx := X.1.1
  have hb := X.1.2.1
  intro H locs ls hM hl
  refine lv_aload_n (pc := 0) hx hb dX7_init_0 rfl (lv_at hl 0 rfl) ?_
  refine bz_obj (pc := 1) X hl.1 g_247 m_oi m_oc (Nat.le_of_ble_eq_true rfl) (Nat.le_of_ble_eq_true rfl) dX7_init_1 ?_
  refine lv_aload_n (pc := 4) hx hb dX7_init_4 rfl (lv_at hl 0 rfl) ?_
  obtain ⟨M1, e2, h⟩ := ob h
  cases e2
  refine bz_new (pc := 5) X hM cfX3 g_248 g_114 g_82 [.null, .int 0] (fun j hj => by rcases (show j = 0 ∨ j = 1 by omega) with rfl | rfl <;> rfl) rfl (Nat.le_of_ble_eq_true rfl) (Nat.le_of_ble_eq_true rfl) dX7_init_5 (fun H hM => ?_)
  refine lv_dup (pc := 8) hx hb dX7_init_8 rfl ?_
  refine lv_bipush (pc := 9) (v := (96 : Int32)) hx hb dX7_init_9 (by decide) ?_
  obtain ⟨M4, e3, h⟩ := ob h
  refine bz_callI (pc := 11) (As := [.int (96 : Int32)]) (rest := [.ref (pB P + M.length), .ref (pB P + a0)]) X hM hl.1 k_RX7_11 (ctX3_init l e3) rfl rfl ⟨(Nat.le_of_ble_eq_true rfl), (Nat.le_of_ble_eq_true rfl)⟩ (Nat.le_of_ble_eq_true rfl) ⟨(Nat.le_of_ble_eq_true rfl), (Nat.le_of_ble_eq_true rfl)⟩ dX7_init_11 (fun H locs hM => ?_)
  obtain ⟨M5, e6, h⟩ := ob h
  refine bz_putQ (pc := 14) X hM fp_RX7_14 rfl (Or.inr hnm) e6 dX7_init_14 (fun H locs hM => ?_)
  refine lv_aload_n (pc := 17) hx hb dX7_init_17 rfl (lv_at hl 0 rfl) ?_
  obtain ⟨M7, e8, h⟩ := ob h
  cases e8
  refine bz_new (pc := 18) X hM cfX3 g_248 g_114 g_82 [.null, .int 0] (fun j hj => by rcases (show j = 0 ∨ j = 1 by omega) with rfl | rfl <;> rfl) rfl (Nat.le_of_ble_eq_true rfl) (Nat.le_of_ble_eq_true rfl) dX7_init_18 (fun H hM => ?_)
  refine lv_dup (pc := 21) hx hb dX7_init_21 rfl ?_
  refine lv_bipush (pc := 22) (v := (96 : Int32)) hx hb dX7_init_22 (by decide) ?_
  obtain ⟨M10, e9, h⟩ := ob h
  refine bz_callI (pc := 24) (As := [.int (96 : Int32)]) (rest := [.ref (pB P + M5.length), .ref (pB P + a0)]) X hM hl.1 k_RX7_11 (ctX3_init l e9) rfl rfl ⟨(Nat.le_of_ble_eq_true rfl), (Nat.le_of_ble_eq_true rfl)⟩ (Nat.le_of_ble_eq_true rfl) ⟨(Nat.le_of_ble_eq_true rfl), (Nat.le_of_ble_eq_true rfl)⟩ dX7_init_24 (fun H locs hM => ?_)
  obtain ⟨M11, e12, h⟩ := ob h
  refine bz_putQ (pc := 27) X hM fp_RX7_20 rfl (Or.inr hnm) e12 dX7_init_27 (fun H locs hM => ?_)
  refine lv_aload_n (pc := 30) hx hb dX7_init_30 rfl (lv_at hl 0 rfl) ?_
  obtain ⟨M13, e14, h⟩ := ob h
  cases e14
  refine bz_new (pc := 31) X hM cfX3 g_248 g_114 g_82 [.null, .int 0] (fun j hj => by rcases (show j = 0 ∨ j = 1 by omega) with rfl | rfl <;> rfl) rfl (Nat.le_of_ble_eq_true rfl) (Nat.le_of_ble_eq_true rfl) dX7_init_31 (fun H hM => ?_)
  refine lv_dup (pc := 34) hx hb dX7_init_34 rfl ?_
  refine lv_bipush (pc := 35) (v := (96 : Int32)) hx hb dX7_init_35 (by decide) ?_
  obtain ⟨M16, e15, h⟩ := ob h
  refine bz_callI (pc := 37) (As := [.int (96 : Int32)]) (rest := [.ref (pB P + M11.length), .ref (pB P + a0)]) X hM hl.1 k_RX7_11 (ctX3_init l e15) rfl rfl ⟨(Nat.le_of_ble_eq_true rfl), (Nat.le_of_ble_eq_true rfl)⟩ (Nat.le_of_ble_eq_true rfl) ⟨(Nat.le_of_ble_eq_true rfl), (Nat.le_of_ble_eq_true rfl)⟩ dX7_init_37 (fun H locs hM => ?_)
  obtain ⟨M17, e18, h⟩ := ob h
  refine bz_putQ (pc := 40) X hM fp_RX7_23 rfl (Or.inr hnm) e18 dX7_init_40 (fun H locs hM => ?_)
  refine lv_aload_n (pc := 43) hx hb dX7_init_43 rfl (lv_at hl 0 rfl) ?_
  obtain ⟨M19, e20, h⟩ := ob h
  cases e20
  refine bz_new (pc := 44) X hM cfX3 g_248 g_114 g_82 [.null, .int 0] (fun j hj => by rcases (show j = 0 ∨ j = 1 by omega) with rfl | rfl <;> rfl) rfl (Nat.le_of_ble_eq_true rfl) (Nat.le_of_ble_eq_true rfl) dX7_init_44 (fun H hM => ?_)
  refine lv_dup (pc := 47) hx hb dX7_init_47 rfl ?_
  refine lv_bipush (pc := 48) (v := (96 : Int32)) hx hb dX7_init_48 (by decide) ?_
  obtain ⟨M22, e21, h⟩ := ob h
  refine bz_callI (pc := 50) (As := [.int (96 : Int32)]) (rest := [.ref (pB P + M17.length), .ref (pB P + a0)]) X hM hl.1 k_RX7_11 (ctX3_init l e21) rfl rfl ⟨(Nat.le_of_ble_eq_true rfl), (Nat.le_of_ble_eq_true rfl)⟩ (Nat.le_of_ble_eq_true rfl) ⟨(Nat.le_of_ble_eq_true rfl), (Nat.le_of_ble_eq_true rfl)⟩ dX7_init_50 (fun H locs hM => ?_)
  obtain ⟨M23, e24, h⟩ := ob h
  refine bz_putQ (pc := 53) X hM fp_RX7_26 rfl (Or.inr hnm) e24 dX7_init_53 (fun H locs hM => ?_)
  refine lv_aload_n (pc := 56) hx hb dX7_init_56 rfl (lv_at hl 0 rfl) ?_
  obtain ⟨M25, e26, h⟩ := ob h
  cases e26
  refine bz_new (pc := 57) X hM cfX3 g_248 g_114 g_82 [.null, .int 0] (fun j hj => by rcases (show j = 0 ∨ j = 1 by omega) with rfl | rfl <;> rfl) rfl (Nat.le_of_ble_eq_true rfl) (Nat.le_of_ble_eq_true rfl) dX7_init_57 (fun H hM => ?_)
  refine lv_dup (pc := 60) hx hb dX7_init_60 rfl ?_
  refine lv_bipush (pc := 61) (v := (96 : Int32)) hx hb dX7_init_61 (by decide) ?_
  obtain ⟨M28, e27, h⟩ := ob h
  refine bz_callI (pc := 63) (As := [.int (96 : Int32)]) (rest := [.ref (pB P + M23.length), .ref (pB P + a0)]) X hM hl.1 k_RX7_11 (ctX3_init l e27) rfl rfl ⟨(Nat.le_of_ble_eq_true rfl), (Nat.le_of_ble_eq_true rfl)⟩ (Nat.le_of_ble_eq_true rfl) ⟨(Nat.le_of_ble_eq_true rfl), (Nat.le_of_ble_eq_true rfl)⟩ dX7_init_63 (fun H locs hM => ?_)
  obtain ⟨M29, e30, h⟩ := ob h
  refine bz_putQ (pc := 66) X hM fp_RX7_29 rfl (Or.inr hnm) e30 dX7_init_66 (fun H locs hM => ?_)
  refine lv_aload_n (pc := 69) hx hb dX7_init_69 rfl (lv_at hl 0 rfl) ?_
  obtain ⟨M31, e32, h⟩ := ob h
  cases e32
  refine bz_new (pc := 70) X hM cfX3 g_248 g_114 g_82 [.null, .int 0] (fun j hj => by rcases (show j = 0 ∨ j = 1 by omega) with rfl | rfl <;> rfl) rfl (Nat.le_of_ble_eq_true rfl) (Nat.le_of_ble_eq_true rfl) dX7_init_70 (fun H hM => ?_)
  refine lv_dup (pc := 73) hx hb dX7_init_73 rfl ?_
  refine lv_bipush (pc := 74) (v := (96 : Int32)) hx hb dX7_init_74 (by decide) ?_
  obtain ⟨M34, e33, h⟩ := ob h
  refine bz_callI (pc := 76) (As := [.int (96 : Int32)]) (rest := [.ref (pB P + M29.length), .ref (pB P + a0)]) X hM hl.1 k_RX7_11 (ctX3_init l e33) rfl rfl ⟨(Nat.le_of_ble_eq_true rfl), (Nat.le_of_ble_eq_true rfl)⟩ (Nat.le_of_ble_eq_true rfl) ⟨(Nat.le_of_ble_eq_true rfl), (Nat.le_of_ble_eq_true rfl)⟩ dX7_init_76 (fun H locs hM => ?_)
  obtain ⟨M35, e36, h⟩ := ob h
  refine bz_putQ (pc := 79) X hM fp_RX7_32 rfl (Or.inr hnm) e36 dX7_init_79 (fun H locs hM => ?_)
  refine lv_aload_n (pc := 82) hx hb dX7_init_82 rfl (lv_at hl 0 rfl) ?_
  obtain ⟨M37, e38, h⟩ := ob h
  cases e38
  refine bz_new (pc := 83) X hM cfX3 g_248 g_114 g_82 [.null, .int 0] (fun j hj => by rcases (show j = 0 ∨ j = 1 by omega) with rfl | rfl <;> rfl) rfl (Nat.le_of_ble_eq_true rfl) (Nat.le_of_ble_eq_true rfl) dX7_init_83 (fun H hM => ?_)
  refine lv_dup (pc := 86) hx hb dX7_init_86 rfl ?_
  refine lv_bipush (pc := 87) (v := (12 : Int32)) hx hb dX7_init_87 (by decide) ?_
  obtain ⟨M40, e39, h⟩ := ob h
  refine bz_callI (pc := 89) (As := [.int (12 : Int32)]) (rest := [.ref (pB P + M35.length), .ref (pB P + a0)]) X hM hl.1 k_RX7_11 (ctX3_init l e39) rfl rfl ⟨(Nat.le_of_ble_eq_true rfl), (Nat.le_of_ble_eq_true rfl)⟩ (Nat.le_of_ble_eq_true rfl) ⟨(Nat.le_of_ble_eq_true rfl), (Nat.le_of_ble_eq_true rfl)⟩ dX7_init_89 (fun H locs hM => ?_)
  obtain ⟨M41, e42, h⟩ := ob h
  refine bz_putQ (pc := 92) X hM fp_RX7_35 rfl (Or.inr hnm) e42 dX7_init_92 (fun H locs hM => ?_)
  obtain rfl := so1 h
  exact bz_vret (pc := 95) X hM hr hlk dX7_init_95 (Nat.le_of_ble_eq_true rfl) (Nat.le_of_ble_eq_true rfl)
theorem ctX7_init (l : Launch) {P : PT} {M : Mm} {a0 : Nat} {M9 : Mm} (h : fX7_init M a0 = some M9) : Ct l yX7_init cX7_init 1 none 2 14 P [.ref (pB P + a0)] M none M9 :=
  Ct.mk (by decide +kernel) (Nat.le_of_ble_eq_true rfl) (fun p e s m args below meth c hX => wX7_init hX M a0 h)
set_option maxHeartbeats 4000000 in
set_option maxRecDepth 100000 in
theorem wX1_init {p : Program} {l : Launch} {e : Env} {s : State} {m : MethodId} {args : Array Value} {below : List Frame} {meth : Method} {c : Code} {P : PT}  {M9 : Mm} (hX : Cy p s m args c meth cX1_init 1 RX1 "<init>" none P)  (M : Mm) (a0 : Nat) (h : fX1_init M a0 = some M9) : Wq p l e s m args below meth c 3 34 none M9 1 P 0 0 [(0, .ref (pB P + a0))] [] M := by
  unfold fX1_init at h
  have hX0 := hX
  obtain ⟨X, hr, hlk, hnm⟩ := hX0
  have hx := X.1.1
  have hb := X.1.2.1
  intro H locs ls hM hl
  refine lv_aload_n (pc := 0) hx hb dX1_init_0 rfl (lv_at hl 0 rfl) ?_
  refine bz_obj (pc := 1) X hl.1 g_241 m_oi m_oc (Nat.le_of_ble_eq_true rfl) (Nat.le_of_ble_eq_true rfl) dX1_init_1 ?_
  refine lv_aload_n (pc := 4) hx hb dX1_init_4 rfl (lv_at hl 0 rfl) ?_
  obtain ⟨M1, e2, h⟩ := ob h
  cases e2
  refine bz_new (pc := 5) X hM cfX7 g_242 g_243 g_86 [.null, .null, .null, .null, .null, .null, .null] (fun j hj => by rcases (show j = 0 ∨ j = 1 ∨ j = 2 ∨ j = 3 ∨ j = 4 ∨ j = 5 ∨ j = 6 by omega) with rfl | rfl | rfl | rfl | rfl | rfl | rfl <;> rfl) rfl (Nat.le_of_ble_eq_true rfl) (Nat.le_of_ble_eq_true rfl) dX1_init_5 (fun H hM => ?_)
  refine lv_dup (pc := 8) hx hb dX1_init_8 rfl ?_
  obtain ⟨M4, e3, h⟩ := ob h
  refine bz_callI (pc := 9) (As := []) (rest := [.ref (pB P + M.length), .ref (pB P + a0)]) X hM hl.1 k_RX1_11 (ctX7_init l e3) rfl rfl ⟨(Nat.le_of_ble_eq_true rfl), (Nat.le_of_ble_eq_true rfl)⟩ (Nat.le_of_ble_eq_true rfl) ⟨(Nat.le_of_ble_eq_true rfl), (Nat.le_of_ble_eq_true rfl)⟩ dX1_init_9 (fun H locs hM => ?_)
  obtain ⟨M5, e6, h⟩ := ob h
  refine bz_putQ (pc := 12) X hM fp_RX1_12 rfl (Or.inr hnm) e6 dX1_init_12 (fun H locs hM => ?_)
  refine lv_aload_n (pc := 15) hx hb dX1_init_15 rfl (lv_at hl 0 rfl) ?_
  obtain ⟨M7, e8, h⟩ := ob h
  cases e8
  refine bz_new (pc := 16) X hM cfX7 g_242 g_243 g_86 [.null, .null, .null, .null, .null, .null, .null] (fun j hj => by rcases (show j = 0 ∨ j = 1 ∨ j = 2 ∨ j = 3 ∨ j = 4 ∨ j = 5 ∨ j = 6 by omega) with rfl | rfl | rfl | rfl | rfl | rfl | rfl <;> rfl) rfl (Nat.le_of_ble_eq_true rfl) (Nat.le_of_ble_eq_true rfl) dX1_init_16 (fun H hM => ?_)
  refine lv_dup (pc := 19) hx hb dX1_init_19 rfl ?_
  obtain ⟨M10, e9, h⟩ := ob h
  refine bz_callI (pc := 20) (As := []) (rest := [.ref (pB P + M5.length), .ref (pB P + a0)]) X hM hl.1 k_RX1_11 (ctX7_init l e9) rfl rfl ⟨(Nat.le_of_ble_eq_true rfl), (Nat.le_of_ble_eq_true rfl)⟩ (Nat.le_of_ble_eq_true rfl) ⟨(Nat.le_of_ble_eq_true rfl), (Nat.le_of_ble_eq_true rfl)⟩ dX1_init_20 (fun H locs hM => ?_)
  obtain ⟨M11, e12, h⟩ := ob h
  refine bz_putQ (pc := 23) X hM fp_RX1_18 rfl (Or.inr hnm) e12 dX1_init_23 (fun H locs hM => ?_)
  refine lv_aload_n (pc := 26) hx hb dX1_init_26 rfl (lv_at hl 0 rfl) ?_
  obtain ⟨M13, e14, h⟩ := ob h
  cases e14
  refine bz_new (pc := 27) X hM cfX3 g_276 g_114 g_82 [.null, .int 0] (fun j hj => by rcases (show j = 0 ∨ j = 1 by omega) with rfl | rfl <;> rfl) rfl (Nat.le_of_ble_eq_true rfl) (Nat.le_of_ble_eq_true rfl) dX1_init_27 (fun H hM => ?_)
  refine lv_dup (pc := 30) hx hb dX1_init_30 rfl ?_
  refine lv_bipush (pc := 31) (v := (96 : Int32)) hx hb dX1_init_31 (by decide) ?_
  obtain ⟨M16, e15, h⟩ := ob h
  refine bz_callI (pc := 33) (As := [.int (96 : Int32)]) (rest := [.ref (pB P + M11.length), .ref (pB P + a0)]) X hM hl.1 k_RX1_23 (ctX3_init l e15) rfl rfl ⟨(Nat.le_of_ble_eq_true rfl), (Nat.le_of_ble_eq_true rfl)⟩ (Nat.le_of_ble_eq_true rfl) ⟨(Nat.le_of_ble_eq_true rfl), (Nat.le_of_ble_eq_true rfl)⟩ dX1_init_33 (fun H locs hM => ?_)
  obtain ⟨M17, e18, h⟩ := ob h
  refine bz_putQ (pc := 36) X hM fp_RX1_26 rfl (Or.inr hnm) e18 dX1_init_36 (fun H locs hM => ?_)
  refine lv_aload_n (pc := 39) hx hb dX1_init_39 rfl (lv_at hl 0 rfl) ?_
  obtain ⟨M19, e20, h⟩ := ob h
  cases e20
  refine bz_new (pc := 40) X hM cfX3 g_276 g_114 g_82 [.null, .int 0] (fun j hj => by rcases (show j = 0 ∨ j = 1 by omega) with rfl | rfl <;> rfl) rfl (Nat.le_of_ble_eq_true rfl) (Nat.le_of_ble_eq_true rfl) dX1_init_40 (fun H hM => ?_)
  refine lv_dup (pc := 43) hx hb dX1_init_43 rfl ?_
  refine lv_sipush (pc := 44) (v := (802 : Int32)) hx hb dX1_init_44 (by decide) ?_
  obtain ⟨M22, e21, h⟩ := ob h
  refine bz_callI (pc := 47) (As := [.int (802 : Int32)]) (rest := [.ref (pB P + M17.length), .ref (pB P + a0)]) X hM hl.1 k_RX1_23 (ctX3_init l e21) rfl rfl ⟨(Nat.le_of_ble_eq_true rfl), (Nat.le_of_ble_eq_true rfl)⟩ (Nat.le_of_ble_eq_true rfl) ⟨(Nat.le_of_ble_eq_true rfl), (Nat.le_of_ble_eq_true rfl)⟩ dX1_init_47 (fun H locs hM => ?_)
  obtain ⟨M23, e24, h⟩ := ob h
  refine bz_putQ (pc := 50) X hM fp_RX1_30 rfl (Or.inr hnm) e24 dX1_init_50 (fun H locs hM => ?_)
  obtain rfl := so1 h
  exact bz_vret (pc := 53) X hM hr hlk dX1_init_53 (Nat.le_of_ble_eq_true rfl) (Nat.le_of_ble_eq_true rfl)
theorem ctX1_init (l : Launch) {P : PT} {M : Mm} {a0 : Nat} {M9 : Mm} (h : fX1_init M a0 = some M9) : Ct l yX1_init cX1_init 1 none 3 34 P [.ref (pB P + a0)] M none M9 :=
  Ct.mk (by decide +kernel) (Nat.le_of_ble_eq_true rfl) (fun p e s m args below meth c hX => wX1_init hX M a0 h)
set_option maxHeartbeats 4000000 in
set_option maxRecDepth 100000 in
theorem wX5_init {p : Program} {l : Launch} {e : Env} {s : State} {m : MethodId} {args : Array Value} {below : List Frame} {meth : Method} {c : Code} {P : PT}  {M9 : Mm} (hX : Cy p s m args c meth cX5_init 1 RX5 "<init>" none P)  (M : Mm) (a0 : Nat) (h : fX5_init M a0 = some M9) : Wq p l e s m args below meth c 2 4 none M9 1 P 0 0 [(0, .ref (pB P + a0))] [] M := by
  unfold fX5_init at h
  have hX0 := hX
  obtain ⟨X, hr, hlk, hnm⟩ := hX0
  have hx := X.1.1
  have hb := X.1.2.1
  intro H locs ls hM hl
  refine lv_aload_n (pc := 0) hx hb dX5_init_0 rfl (lv_at hl 0 rfl) ?_
  refine bz_obj (pc := 1) X hl.1 g_299 m_oi m_oc (Nat.le_of_ble_eq_true rfl) (Nat.le_of_ble_eq_true rfl) dX5_init_1 ?_
  refine lv_aload_n (pc := 4) hx hb dX5_init_4 rfl (lv_at hl 0 rfl) ?_
  obtain ⟨M1, e2, h⟩ := ob h
  cases e2
  refine bz_new (pc := 5) X hM cfX3 g_300 g_114 g_82 [.null, .int 0] (fun j hj => by rcases (show j = 0 ∨ j = 1 by omega) with rfl | rfl <;> rfl) rfl (Nat.le_of_ble_eq_true rfl) (Nat.le_of_ble_eq_true rfl) dX5_init_5 (fun H hM => ?_)
  refine lv_dup (pc := 8) hx hb dX5_init_8 rfl ?_
  refine lv_bipush (pc := 9) (v := (41 : Int32)) hx hb dX5_init_9 (by decide) ?_
  obtain ⟨M4, e3, h⟩ := ob h
  refine bz_callI (pc := 11) (As := [.int (41 : Int32)]) (rest := [.ref (pB P + M.length), .ref (pB P + a0)]) X hM hl.1 k_RX5_11 (ctX3_init l e3) rfl rfl ⟨(Nat.le_of_ble_eq_true rfl), (Nat.le_of_ble_eq_true rfl)⟩ (Nat.le_of_ble_eq_true rfl) ⟨(Nat.le_of_ble_eq_true rfl), (Nat.le_of_ble_eq_true rfl)⟩ dX5_init_11 (fun H locs hM => ?_)
  obtain ⟨M5, e6, h⟩ := ob h
  refine bz_putQ (pc := 14) X hM fp_RX5_14 rfl (Or.inr hnm) e6 dX5_init_14 (fun H locs hM => ?_)
  refine lv_aload_n (pc := 17) hx hb dX5_init_17 rfl (lv_at hl 0 rfl) ?_
  obtain ⟨M7, e8, h⟩ := ob h
  cases e8
  refine bz_new (pc := 18) X hM cfX3 g_300 g_114 g_82 [.null, .int 0] (fun j hj => by rcases (show j = 0 ∨ j = 1 by omega) with rfl | rfl <;> rfl) rfl (Nat.le_of_ble_eq_true rfl) (Nat.le_of_ble_eq_true rfl) dX5_init_18 (fun H hM => ?_)
  refine lv_dup (pc := 21) hx hb dX5_init_21 rfl ?_
  refine lv_bipush (pc := 22) (v := (41 : Int32)) hx hb dX5_init_22 (by decide) ?_
  obtain ⟨M10, e9, h⟩ := ob h
  refine bz_callI (pc := 24) (As := [.int (41 : Int32)]) (rest := [.ref (pB P + M5.length), .ref (pB P + a0)]) X hM hl.1 k_RX5_11 (ctX3_init l e9) rfl rfl ⟨(Nat.le_of_ble_eq_true rfl), (Nat.le_of_ble_eq_true rfl)⟩ (Nat.le_of_ble_eq_true rfl) ⟨(Nat.le_of_ble_eq_true rfl), (Nat.le_of_ble_eq_true rfl)⟩ dX5_init_24 (fun H locs hM => ?_)
  obtain ⟨M11, e12, h⟩ := ob h
  refine bz_putQ (pc := 27) X hM fp_RX5_20 rfl (Or.inr hnm) e12 dX5_init_27 (fun H locs hM => ?_)
  obtain rfl := so1 h
  exact bz_vret (pc := 30) X hM hr hlk dX5_init_30 (Nat.le_of_ble_eq_true rfl) (Nat.le_of_ble_eq_true rfl)
theorem ctX5_init (l : Launch) {P : PT} {M : Mm} {a0 : Nat} {M9 : Mm} (h : fX5_init M a0 = some M9) : Ct l yX5_init cX5_init 1 none 2 4 P [.ref (pB P + a0)] M none M9 :=
  Ct.mk (by decide +kernel) (Nat.le_of_ble_eq_true rfl) (fun p e s m args below meth c hX => wX5_init hX M a0 h)
set_option maxHeartbeats 4000000 in
set_option maxRecDepth 100000 in
theorem wX9_init {p : Program} {l : Launch} {e : Env} {s : State} {m : MethodId} {args : Array Value} {below : List Frame} {meth : Method} {c : Code} {P : PT}  {M9 : Mm} (hX : Cy p s m args c meth cX9_init 1 RX9 "<init>" none P)  (M : Mm) (a0 : Nat) (h : fX9_init M a0 = some M9) : Wq p l e s m args below meth c 2 2 none M9 1 P 0 0 [(0, .ref (pB P + a0))] [] M := by
  unfold fX9_init at h
  have hX0 := hX
  obtain ⟨X, hr, hlk, hnm⟩ := hX0
  have hx := X.1.1
  have hb := X.1.2.1
  intro H locs ls hM hl
  refine lv_aload_n (pc := 0) hx hb dX9_init_0 rfl (lv_at hl 0 rfl) ?_
  refine bz_obj (pc := 1) X hl.1 g_320 m_oi m_oc (Nat.le_of_ble_eq_true rfl) (Nat.le_of_ble_eq_true rfl) dX9_init_1 ?_
  refine lv_aload_n (pc := 4) hx hb dX9_init_4 rfl (lv_at hl 0 rfl) ?_
  obtain ⟨M1, e2, h⟩ := ob h
  cases e2
  refine bz_new (pc := 5) X hM cfX3 g_321 g_114 g_82 [.null, .int 0] (fun j hj => by rcases (show j = 0 ∨ j = 1 by omega) with rfl | rfl <;> rfl) rfl (Nat.le_of_ble_eq_true rfl) (Nat.le_of_ble_eq_true rfl) dX9_init_5 (fun H hM => ?_)
  refine lv_dup (pc := 8) hx hb dX9_init_8 rfl ?_
  refine lv_bipush (pc := 9) (v := (40 : Int32)) hx hb dX9_init_9 (by decide) ?_
  obtain ⟨M4, e3, h⟩ := ob h
  refine bz_callI (pc := 11) (As := [.int (40 : Int32)]) (rest := [.ref (pB P + M.length), .ref (pB P + a0)]) X hM hl.1 k_RX9_11 (ctX3_init l e3) rfl rfl ⟨(Nat.le_of_ble_eq_true rfl), (Nat.le_of_ble_eq_true rfl)⟩ (Nat.le_of_ble_eq_true rfl) ⟨(Nat.le_of_ble_eq_true rfl), (Nat.le_of_ble_eq_true rfl)⟩ dX9_init_11 (fun H locs hM => ?_)
  obtain ⟨M5, e6, h⟩ := ob h
  refine bz_putQ (pc := 14) X hM fp_RX9_14 rfl (Or.inr hnm) e6 dX9_init_14 (fun H locs hM => ?_)
  obtain rfl := so1 h
  exact bz_vret (pc := 17) X hM hr hlk dX9_init_17 (Nat.le_of_ble_eq_true rfl) (Nat.le_of_ble_eq_true rfl)
theorem ctX9_init (l : Launch) {P : PT} {M : Mm} {a0 : Nat} {M9 : Mm} (h : fX9_init M a0 = some M9) : Ct l yX9_init cX9_init 1 none 2 2 P [.ref (pB P + a0)] M none M9 :=
  Ct.mk (by decide +kernel) (Nat.le_of_ble_eq_true rfl) (fun p e s m args below meth c hX => wX9_init hX M a0 h)
set_option maxHeartbeats 4000000 in
set_option maxRecDepth 100000 in
theorem wX2_init {p : Program} {l : Launch} {e : Env} {s : State} {m : MethodId} {args : Array Value} {below : List Frame} {meth : Method} {c : Code} {P : PT}  {M9 : Mm} (hX : Cy p s m args c meth cX2_init 1 RX2 "<init>" none P)  (M : Mm) (a0 : Nat) (h : fX2_init M a0 = some M9) : Wq p l e s m args below meth c 2 4 none M9 1 P 0 0 [(0, .ref (pB P + a0))] [] M := by
  unfold fX2_init at h
  have hX0 := hX
  obtain ⟨X, hr, hlk, hnm⟩ := hX0
  have hx := X.1.1
  have hb := X.1.2.1
  intro H locs ls hM hl
  refine lv_aload_n (pc := 0) hx hb dX2_init_0 rfl (lv_at hl 0 rfl) ?_
  refine bz_obj (pc := 1) X hl.1 g_333 m_oi m_oc (Nat.le_of_ble_eq_true rfl) (Nat.le_of_ble_eq_true rfl) dX2_init_1 ?_
  refine lv_aload_n (pc := 4) hx hb dX2_init_4 rfl (lv_at hl 0 rfl) ?_
  obtain ⟨M1, e2, h⟩ := ob h
  cases e2
  refine bz_new (pc := 5) X hM cfX3 g_334 g_114 g_82 [.null, .int 0] (fun j hj => by rcases (show j = 0 ∨ j = 1 by omega) with rfl | rfl <;> rfl) rfl (Nat.le_of_ble_eq_true rfl) (Nat.le_of_ble_eq_true rfl) dX2_init_5 (fun H hM => ?_)
  refine lv_dup (pc := 8) hx hb dX2_init_8 rfl ?_
  refine lv_bipush (pc := 9) (v := (50 : Int32)) hx hb dX2_init_9 (by decide) ?_
  obtain ⟨M4, e3, h⟩ := ob h
  refine bz_callI (pc := 11) (As := [.int (50 : Int32)]) (rest := [.ref (pB P + M.length), .ref (pB P + a0)]) X hM hl.1 k_RX2_11 (ctX3_init l e3) rfl rfl ⟨(Nat.le_of_ble_eq_true rfl), (Nat.le_of_ble_eq_true rfl)⟩ (Nat.le_of_ble_eq_true rfl) ⟨(Nat.le_of_ble_eq_true rfl), (Nat.le_of_ble_eq_true rfl)⟩ dX2_init_11 (fun H locs hM => ?_)
  obtain ⟨M5, e6, h⟩ := ob h
  refine bz_putQ (pc := 14) X hM fp_RX2_14 rfl (Or.inr hnm) e6 dX2_init_14 (fun H locs hM => ?_)
  refine lv_aload_n (pc := 17) hx hb dX2_init_17 rfl (lv_at hl 0 rfl) ?_
  obtain ⟨M7, e8, h⟩ := ob h
  cases e8
  refine bz_new (pc := 18) X hM cfX3 g_334 g_114 g_82 [.null, .int 0] (fun j hj => by rcases (show j = 0 ∨ j = 1 by omega) with rfl | rfl <;> rfl) rfl (Nat.le_of_ble_eq_true rfl) (Nat.le_of_ble_eq_true rfl) dX2_init_18 (fun H hM => ?_)
  refine lv_dup (pc := 21) hx hb dX2_init_21 rfl ?_
  refine lv_bipush (pc := 22) (v := (50 : Int32)) hx hb dX2_init_22 (by decide) ?_
  obtain ⟨M10, e9, h⟩ := ob h
  refine bz_callI (pc := 24) (As := [.int (50 : Int32)]) (rest := [.ref (pB P + M5.length), .ref (pB P + a0)]) X hM hl.1 k_RX2_11 (ctX3_init l e9) rfl rfl ⟨(Nat.le_of_ble_eq_true rfl), (Nat.le_of_ble_eq_true rfl)⟩ (Nat.le_of_ble_eq_true rfl) ⟨(Nat.le_of_ble_eq_true rfl), (Nat.le_of_ble_eq_true rfl)⟩ dX2_init_24 (fun H locs hM => ?_)
  obtain ⟨M11, e12, h⟩ := ob h
  refine bz_putQ (pc := 27) X hM fp_RX2_20 rfl (Or.inr hnm) e12 dX2_init_27 (fun H locs hM => ?_)
  refine lv_aload_n (pc := 30) hx hb dX2_init_30 rfl (lv_at hl 0 rfl) ?_
  refine bz_ldcS (pc := 31) X 0 (by decide) rfl rfl dX2_init_31 ?_
  obtain ⟨M13, e14, h⟩ := ob h
  refine bz_putS (pc := 33) X hM fp_RX2_25 rfl (Or.inl rfl) (by decide) e14 dX2_init_33 (fun H locs hM => ?_)
  obtain rfl := so1 h
  exact bz_vret (pc := 36) X hM hr hlk dX2_init_36 (Nat.le_of_ble_eq_true rfl) (Nat.le_of_ble_eq_true rfl)
theorem ctX2_init (l : Launch) {P : PT} {M : Mm} {a0 : Nat} {M9 : Mm} (h : fX2_init M a0 = some M9) : Ct l yX2_init cX2_init 1 none 2 4 P [.ref (pB P + a0)] M none M9 :=
  Ct.mk (by decide +kernel) (Nat.le_of_ble_eq_true rfl) (fun p e s m args below meth c hX => wX2_init hX M a0 h)
set_option maxHeartbeats 4000000 in
set_option maxRecDepth 100000 in
theorem wBX10_init_59 {p : Program} {l : Launch} {e : Env} {s : State} {m : MethodId} {args : Array Value} {below : List Frame} {meth : Method} {c : Code} {P : PT} {N : Nat} {K59 : Mm → Nat → Int32 → Option (Mm)}  {M9 : Mm} (hX : Cy p s m args c meth cX10_init 2 RX10 "<init>" none P)  {cl n : Nat} (hcl : cl + 3 * (n + 1) ≤ 76) (hK59 : ∀ (cl : Nat) (_ : cl + 3 * n ≤ 76) (M : Mm) (x0 : Nat) (x1 : Int32), K59 M x0 x1 = some M9 → Wq p l e s m args below meth c 4 139 none M9 2 P cl 59 [(0, .ref (pB P + x0)), (1, .int x1)] [] M) (M : Mm) (x0 : Nat) (x1 : Int32)  (h : BX10_init_59 N K59 M x0 x1 = some M9) : Wq p l e s m args below meth c 4 139 none M9 2 P cl 59 [(0, .ref (pB P + x0)), (1, .int x1)] [] M := by
  unfold BX10_init_59 at h
  have hX0 := hX
  obtain ⟨X, hr, hlk, hnm⟩ := hX0
  have hx := X.1.1
  have hb := X.1.2.1
  intro H locs ls hM hl
  refine lv_iload_n (pc := 59) hx hb dX10_init_59 rfl (lv_at hl 1 rfl) ?_
  refine lv_iconst (pc := 60) (v := (4 : Int32)) hx hb dX10_init_60 (by decide) ?_
  refine lv_icmp_ge (pc := 61) (tgt := 83) hx hb dX10_init_61 (by decide) (fun hc => ?_) (fun hc => ?_)
  · have h := if_t hc h
    refine W.widen (k := 76) (n := 1000 * 76) (by omega) (by omega) ?_
    refine lv_aload_n (pc := 83) hx hb dX10_init_83 rfl (lv_at hl 0 rfl) ?_
    obtain ⟨M1, e2, h⟩ := ob h
    cases e2
    refine bz_new (pc := 84) X hM cfX1 g_236 g_237 g_85 [.null, .null, .null, .null] (fun j hj => by rcases (show j = 0 ∨ j = 1 ∨ j = 2 ∨ j = 3 by omega) with rfl | rfl | rfl | rfl <;> rfl) rfl (Nat.le_of_ble_eq_true rfl) (Nat.le_of_ble_eq_true rfl) dX10_init_84 (fun H hM => ?_)
    refine lv_dup (pc := 87) hx hb dX10_init_87 rfl ?_
    obtain ⟨M4, e3, h⟩ := ob h
    refine bz_callI (pc := 88) (As := []) (rest := [.ref (pB P + M.length), .ref (pB P + x0)]) X hM hl.1 k_RX10_41 (ctX1_init l e3) rfl rfl ⟨(Nat.le_of_ble_eq_true rfl), (Nat.le_of_ble_eq_true rfl)⟩ (Nat.le_of_ble_eq_true rfl) ⟨(Nat.le_of_ble_eq_true rfl), (Nat.le_of_ble_eq_true rfl)⟩ dX10_init_88 (fun H locs hM => ?_)
    obtain ⟨M5, e6, h⟩ := ob h
    refine bz_putQ (pc := 91) X hM fp_RX10_42 rfl (Or.inr hnm) e6 dX10_init_91 (fun H locs hM => ?_)
    refine lv_aload_n (pc := 94) hx hb dX10_init_94 rfl (lv_at hl 0 rfl) ?_
    obtain ⟨M7, e8, h⟩ := ob h
    cases e8
    refine bz_new (pc := 95) X hM cfX7 g_292 g_243 g_86 [.null, .null, .null, .null, .null, .null, .null] (fun j hj => by rcases (show j = 0 ∨ j = 1 ∨ j = 2 ∨ j = 3 ∨ j = 4 ∨ j = 5 ∨ j = 6 by omega) with rfl | rfl | rfl | rfl | rfl | rfl | rfl <;> rfl) rfl (Nat.le_of_ble_eq_true rfl) (Nat.le_of_ble_eq_true rfl) dX10_init_95 (fun H hM => ?_)
    refine lv_dup (pc := 98) hx hb dX10_init_98 rfl ?_
    obtain ⟨M10, e9, h⟩ := ob h
    refine bz_callI (pc := 99) (As := []) (rest := [.ref (pB P + M5.length), .ref (pB P + x0)]) X hM hl.1 k_RX10_48 (ctX7_init l e9) rfl rfl ⟨(Nat.le_of_ble_eq_true rfl), (Nat.le_of_ble_eq_true rfl)⟩ (Nat.le_of_ble_eq_true rfl) ⟨(Nat.le_of_ble_eq_true rfl), (Nat.le_of_ble_eq_true rfl)⟩ dX10_init_99 (fun H locs hM => ?_)
    obtain ⟨M11, e12, h⟩ := ob h
    refine bz_putQ (pc := 102) X hM fp_RX10_49 rfl (Or.inr hnm) e12 dX10_init_102 (fun H locs hM => ?_)
    refine lv_aload_n (pc := 105) hx hb dX10_init_105 rfl (lv_at hl 0 rfl) ?_
    obtain ⟨M13, e14, h⟩ := ob h
    cases e14
    refine bz_new (pc := 106) X hM cfX5 g_294 g_295 g_87 [.null, .null, .int 0, .int 0] (fun j hj => by rcases (show j = 0 ∨ j = 1 ∨ j = 2 ∨ j = 3 by omega) with rfl | rfl | rfl | rfl <;> rfl) rfl (Nat.le_of_ble_eq_true rfl) (Nat.le_of_ble_eq_true rfl) dX10_init_106 (fun H hM => ?_)
    refine lv_dup (pc := 109) hx hb dX10_init_109 rfl ?_
    obtain ⟨M16, e15, h⟩ := ob h
    refine bz_callI (pc := 110) (As := []) (rest := [.ref (pB P + M11.length), .ref (pB P + x0)]) X hM hl.1 k_RX10_55 (ctX5_init l e15) rfl rfl ⟨(Nat.le_of_ble_eq_true rfl), (Nat.le_of_ble_eq_true rfl)⟩ (Nat.le_of_ble_eq_true rfl) ⟨(Nat.le_of_ble_eq_true rfl), (Nat.le_of_ble_eq_true rfl)⟩ dX10_init_110 (fun H locs hM => ?_)
    obtain ⟨M17, e18, h⟩ := ob h
    refine bz_putQ (pc := 113) X hM fp_RX10_56 rfl (Or.inr hnm) e18 dX10_init_113 (fun H locs hM => ?_)
    refine lv_aload_n (pc := 116) hx hb dX10_init_116 rfl (lv_at hl 0 rfl) ?_
    obtain ⟨M19, e20, h⟩ := ob h
    cases e20
    refine bz_new (pc := 117) X hM cfX9 g_315 g_316 g_88 [.null] (fun j hj => by rcases (show j = 0 by omega) with rfl <;> rfl) rfl (Nat.le_of_ble_eq_true rfl) (Nat.le_of_ble_eq_true rfl) dX10_init_117 (fun H hM => ?_)
    refine lv_dup (pc := 120) hx hb dX10_init_120 rfl ?_
    obtain ⟨M22, e21, h⟩ := ob h
    refine bz_callI (pc := 121) (As := []) (rest := [.ref (pB P + M17.length), .ref (pB P + x0)]) X hM hl.1 k_RX10_62 (ctX9_init l e21) rfl rfl ⟨(Nat.le_of_ble_eq_true rfl), (Nat.le_of_ble_eq_true rfl)⟩ (Nat.le_of_ble_eq_true rfl) ⟨(Nat.le_of_ble_eq_true rfl), (Nat.le_of_ble_eq_true rfl)⟩ dX10_init_121 (fun H locs hM => ?_)
    obtain ⟨M23, e24, h⟩ := ob h
    refine bz_putQ (pc := 124) X hM fp_RX10_63 rfl (Or.inr hnm) e24 dX10_init_124 (fun H locs hM => ?_)
    refine lv_aload_n (pc := 127) hx hb dX10_init_127 rfl (lv_at hl 0 rfl) ?_
    obtain ⟨M25, e26, h⟩ := ob h
    cases e26
    refine bz_new (pc := 128) X hM cfX2 g_328 g_329 g_89 [.null, .null, .null, .int 0] (fun j hj => by rcases (show j = 0 ∨ j = 1 ∨ j = 2 ∨ j = 3 by omega) with rfl | rfl | rfl | rfl <;> rfl) rfl (Nat.le_of_ble_eq_true rfl) (Nat.le_of_ble_eq_true rfl) dX10_init_128 (fun H hM => ?_)
    refine lv_dup (pc := 131) hx hb dX10_init_131 rfl ?_
    obtain ⟨M28, e27, h⟩ := ob h
    refine bz_callI (pc := 132) (As := []) (rest := [.ref (pB P + M23.length), .ref (pB P + x0)]) X hM hl.1 k_RX10_69 (ctX2_init l e27) rfl rfl ⟨(Nat.le_of_ble_eq_true rfl), (Nat.le_of_ble_eq_true rfl)⟩ (Nat.le_of_ble_eq_true rfl) ⟨(Nat.le_of_ble_eq_true rfl), (Nat.le_of_ble_eq_true rfl)⟩ dX10_init_132 (fun H locs hM => ?_)
    obtain ⟨M29, e30, h⟩ := ob h
    refine bz_putQ (pc := 135) X hM fp_RX10_70 rfl (Or.inr hnm) e30 dX10_init_135 (fun H locs hM => ?_)
    obtain rfl := so1 h
    exact bz_vret (pc := 138) X hM hr hlk dX10_init_138 (Nat.le_of_ble_eq_true rfl) (Nat.le_of_ble_eq_true rfl)
  · have h := if_f hc h
    refine lv_aload_n (pc := 64) hx hb dX10_init_64 rfl (lv_at hl 0 rfl) ?_
    obtain ⟨q31, e32, h⟩ := ob h
    refine bz_getQ (pc := 65) X hM fl_RX10_34 e32 dX10_init_65 ?_
    refine lv_iload_n (pc := 68) hx hb dX10_init_68 rfl (lv_at hl 1 rfl) ?_
    obtain ⟨M33, e34, h⟩ := ob h
    cases e34
    refine bz_new (pc := 69) X hM cfX4 g_218 g_220 g_84 [.null, .int 0] (fun j hj => by rcases (show j = 0 ∨ j = 1 by omega) with rfl | rfl <;> rfl) rfl (by show _ ≤ 139; omega) (by show _ ≤ 1000 * 139; omega) dX10_init_69 (fun H hM => ?_)
    refine lv_dup (pc := 72) hx hb dX10_init_72 rfl ?_
    obtain ⟨M36, e35, h⟩ := ob h
    refine bz_callI (pc := 73) (As := []) (rest := [.ref (pB P + M.length), .int x1, .ref (pB P + q31)]) X hM hl.1 k_RX10_38 (ctX4_init l e35) rfl rfl ⟨(Nat.le_of_ble_eq_true rfl), (Nat.le_of_ble_eq_true rfl)⟩ (Nat.le_of_ble_eq_true rfl) ⟨(by show _ ≤ 139; omega), (by show _ ≤ 1000 * 139; omega)⟩ dX10_init_73 (fun H locs hM => ?_)
    obtain ⟨M37, e38, h⟩ := ob h
    refine bz_aast (pc := 76) (t := 4) (ci := 4) (r := (some M.length)) X hM ⟨by decide, rfl, rfl⟩ e38 dX10_init_76 (fun H locs hM => ?_)
    refine lv_iinc (pc := 77) (v := (x1 + (1 : Int32))) (lv' := [(1, .int (x1 + (1 : Int32))), (0, .ref (pB P + x0))]) hx hb dX10_init_77 hl (k := 1) rfl rfl (by decide) rfl (fun ls hl => ?_)
    refine lv_goto (pc := 80) (tgt := 59) hx hb dX10_init_80 (by decide) ?_
    refine W.widen (k := cl + 3) (n := 1000 * (cl + 3)) (by omega) (by omega) ?_
    exact hK59 (cl + 3) (by omega) _ _ _ h H locs ls hM (lv_sub hl [1, 0] rfl)
set_option maxHeartbeats 4000000 in
set_option maxRecDepth 100000 in
theorem wLX10_init_59 {p : Program} {l : Launch} {e : Env} {s : State} {m : MethodId} {args : Array Value} {below : List Frame} {meth : Method} {c : Code} {P : PT} {N : Nat}  {M9 : Mm} (hX : Cy p s m args c meth cX10_init 2 RX10 "<init>" none P)   : ∀ (n : Nat) (cl : Nat) (_ : cl + 3 * n ≤ 76) (M : Mm) (x0 : Nat) (x1 : Int32) , LX10_init_59 N n M x0 x1 = some M9 → Wq p l e s m args below meth c 4 139 none M9 2 P cl 59 [(0, .ref (pB P + x0)), (1, .int x1)] [] M := by
  intro n
  induction n with
  | zero => intro cl _ M x0 x1 h; cases h
  | succ n ih => intro cl hcl M x0 x1 h; exact wBX10_init_59 hX hcl ih M x0 x1 h
set_option maxHeartbeats 4000000 in
set_option maxRecDepth 100000 in
theorem wX10_init {p : Program} {l : Launch} {e : Env} {s : State} {m : MethodId} {args : Array Value} {below : List Frame} {meth : Method} {c : Code} {P : PT} {N : Nat}  {M9 : Mm} (hX : Cy p s m args c meth cX10_init 2 RX10 "<init>" none P)  (M : Mm) (a0 : Nat) (h : fX10_init N M a0 = some M9) : Wq p l e s m args below meth c 4 139 none M9 2 P 0 0 [(0, .ref (pB P + a0))] [] M := by
  unfold fX10_init at h
  have hX0 := hX
  obtain ⟨X, hr, hlk, hnm⟩ := hX0
  have hx := X.1.1
  have hb := X.1.2.1
  intro H locs ls hM hl
  refine lv_aload_n (pc := 0) hx hb dX10_init_0 rfl (lv_at hl 0 rfl) ?_
  refine bz_obj (pc := 1) X hl.1 g_104 m_oi m_oc (Nat.le_of_ble_eq_true rfl) (Nat.le_of_ble_eq_true rfl) dX10_init_1 ?_
  refine lv_aload_n (pc := 4) hx hb dX10_init_4 rfl (lv_at hl 0 rfl) ?_
  obtain ⟨M1, e2, h⟩ := ob h
  cases e2
  refine bz_new (pc := 5) X hM cfX6 g_107 g_108 g_81 [.null, .null, .null, .null, .null, .null, .null, .null, .int 0, .null, .null, .null, .null, .null, .null, .null, .int 0] (fun j hj => by rcases (show j = 0 ∨ j = 1 ∨ j = 2 ∨ j = 3 ∨ j = 4 ∨ j = 5 ∨ j = 6 ∨ j = 7 ∨ j = 8 ∨ j = 9 ∨ j = 10 ∨ j = 11 ∨ j = 12 ∨ j = 13 ∨ j = 14 ∨ j = 15 ∨ j = 16 by omega) with rfl | rfl | rfl | rfl | rfl | rfl | rfl | rfl | rfl | rfl | rfl | rfl | rfl | rfl | rfl | rfl | rfl <;> rfl) rfl (Nat.le_of_ble_eq_true rfl) (Nat.le_of_ble_eq_true rfl) dX10_init_5 (fun H hM => ?_)
  refine lv_dup (pc := 8) hx hb dX10_init_8 rfl ?_
  obtain ⟨M4, e3, h⟩ := ob h
  refine bz_callI (pc := 9) (As := []) (rest := [.ref (pB P + M.length), .ref (pB P + a0)]) X hM hl.1 k_RX10_9 (ctX6_init l e3) rfl rfl ⟨(Nat.le_of_ble_eq_true rfl), (Nat.le_of_ble_eq_true rfl)⟩ (Nat.le_of_ble_eq_true rfl) ⟨(Nat.le_of_ble_eq_true rfl), (Nat.le_of_ble_eq_true rfl)⟩ dX10_init_9 (fun H locs hM => ?_)
  obtain ⟨M5, e6, h⟩ := ob h
  refine bz_putQ (pc := 12) X hM fp_RX10_10 rfl (Or.inr hnm) e6 dX10_init_12 (fun H locs hM => ?_)
  refine lv_aload_n (pc := 15) hx hb dX10_init_15 rfl (lv_at hl 0 rfl) ?_
  obtain ⟨M7, e8, h⟩ := ob h
  cases e8
  refine bz_new (pc := 16) X hM cfX6 g_107 g_108 g_81 [.null, .null, .null, .null, .null, .null, .null, .null, .int 0, .null, .null, .null, .null, .null, .null, .null, .int 0] (fun j hj => by rcases (show j = 0 ∨ j = 1 ∨ j = 2 ∨ j = 3 ∨ j = 4 ∨ j = 5 ∨ j = 6 ∨ j = 7 ∨ j = 8 ∨ j = 9 ∨ j = 10 ∨ j = 11 ∨ j = 12 ∨ j = 13 ∨ j = 14 ∨ j = 15 ∨ j = 16 by omega) with rfl | rfl | rfl | rfl | rfl | rfl | rfl | rfl | rfl | rfl | rfl | rfl | rfl | rfl | rfl | rfl | rfl <;> rfl) rfl (Nat.le_of_ble_eq_true rfl) (Nat.le_of_ble_eq_true rfl) dX10_init_16 (fun H hM => ?_)
  refine lv_dup (pc := 19) hx hb dX10_init_19 rfl ?_
  obtain ⟨M10, e9, h⟩ := ob h
  refine bz_callI (pc := 20) (As := []) (rest := [.ref (pB P + M5.length), .ref (pB P + a0)]) X hM hl.1 k_RX10_9 (ctX6_init l e9) rfl rfl ⟨(Nat.le_of_ble_eq_true rfl), (Nat.le_of_ble_eq_true rfl)⟩ (Nat.le_of_ble_eq_true rfl) ⟨(Nat.le_of_ble_eq_true rfl), (Nat.le_of_ble_eq_true rfl)⟩ dX10_init_20 (fun H locs hM => ?_)
  obtain ⟨M11, e12, h⟩ := ob h
  refine bz_putQ (pc := 23) X hM fp_RX10_16 rfl (Or.inr hnm) e12 dX10_init_23 (fun H locs hM => ?_)
  refine lv_aload_n (pc := 26) hx hb dX10_init_26 rfl (lv_at hl 0 rfl) ?_
  obtain ⟨M13, e14, h⟩ := ob h
  cases e14
  refine bz_new (pc := 27) X hM cfX3 g_215 g_114 g_82 [.null, .int 0] (fun j hj => by rcases (show j = 0 ∨ j = 1 by omega) with rfl | rfl <;> rfl) rfl (Nat.le_of_ble_eq_true rfl) (Nat.le_of_ble_eq_true rfl) dX10_init_27 (fun H hM => ?_)
  refine lv_dup (pc := 30) hx hb dX10_init_30 rfl ?_
  refine lv_bipush (pc := 31) (v := (6 : Int32)) hx hb dX10_init_31 (by decide) ?_
  obtain ⟨M16, e15, h⟩ := ob h
  refine bz_callI (pc := 33) (As := [.int (6 : Int32)]) (rest := [.ref (pB P + M11.length), .ref (pB P + a0)]) X hM hl.1 k_RX10_21 (ctX3_init l e15) rfl rfl ⟨(Nat.le_of_ble_eq_true rfl), (Nat.le_of_ble_eq_true rfl)⟩ (Nat.le_of_ble_eq_true rfl) ⟨(Nat.le_of_ble_eq_true rfl), (Nat.le_of_ble_eq_true rfl)⟩ dX10_init_33 (fun H locs hM => ?_)
  obtain ⟨M17, e18, h⟩ := ob h
  refine bz_putQ (pc := 36) X hM fp_RX10_24 rfl (Or.inr hnm) e18 dX10_init_36 (fun H locs hM => ?_)
  refine lv_aload_n (pc := 39) hx hb dX10_init_39 rfl (lv_at hl 0 rfl) ?_
  obtain ⟨q19, e20, h⟩ := ob h
  refine bz_getQ (pc := 40) X hM fl_RX10_24 e20 dX10_init_40 ?_
  refine lv_bipush (pc := 43) (v := (6 : Int32)) hx hb dX10_init_43 (by decide) ?_
  refine lv_iconst (pc := 45) (v := (0 : Int32)) hx hb dX10_init_45 (by decide) ?_
  obtain ⟨M22, e21, h⟩ := ob h
  obtain ⟨fs23, hb24⟩ := (rX3_fill e21)
  refine bz_callV0 (pc := 46) (As := [.int (6 : Int32), .int (0 : Int32)]) (rest := []) X hM hl.1 k_RX10_28 (ctX3_fill l e21) rfl hb24 rfl rfl ⟨(Nat.le_of_ble_eq_true rfl), (Nat.le_of_ble_eq_true rfl)⟩ (Nat.le_of_ble_eq_true rfl) ⟨(Nat.le_of_ble_eq_true rfl), (Nat.le_of_ble_eq_true rfl)⟩ dX10_init_46 (fun H locs hM => ?_)
  refine lv_aload_n (pc := 49) hx hb dX10_init_49 rfl (lv_at hl 0 rfl) ?_
  refine lv_iconst (pc := 50) (v := (4 : Int32)) hx hb dX10_init_50 (by decide) ?_
  obtain ⟨M25, e26, h⟩ := ob h
  refine bz_newq (pc := 51) X hM 4 (by decide) rfl g_218 (fun _ h => h.2.2.2) e26 (Nat.le_of_ble_eq_true rfl) (Nat.le_of_ble_eq_true rfl) dX10_init_51 (fun H hM => ?_)
  obtain ⟨M27, e28, h⟩ := ob h
  refine bz_putQ (pc := 54) X hM fp_RX10_34 rfl (Or.inr hnm) e28 dX10_init_54 (fun H locs hM => ?_)
  refine lv_iconst (pc := 57) (v := (0 : Int32)) hx hb dX10_init_57 (by decide) ?_
  refine lv_istore_n (pc := 58) (lv' := [(1, .int (0 : Int32)), (0, .ref (pB P + a0))]) hx hb dX10_init_58 rfl hl (by decide) rfl (fun ls hl => ?_)
  exact wLX10_init_59 hX 5 61 (by decide) _ _ _ h H locs ls hM (lv_sub hl [1, 0] rfl)
theorem ctX10_init (l : Launch) {P : PT} {N : Nat} {M : Mm} {a0 : Nat} {M9 : Mm} (h : fX10_init N M a0 = some M9) : Ct l yX10_init cX10_init 2 none 4 139 P [.ref (pB P + a0)] M none M9 :=
  Ct.mk (by decide +kernel) (Nat.le_of_ble_eq_true rfl) (fun p e s m args below meth c hX => wX10_init hX M a0 h)
set_option maxHeartbeats 4000000 in
set_option maxRecDepth 100000 in
theorem wBX11_init_135 {p : Program} {l : Launch} {e : Env} {s : State} {m : MethodId} {args : Array Value} {below : List Frame} {meth : Method} {c : Code} {P : PT} {N : Nat} {K135 : Mm → Nat → Int32 → Option (Mm)}  {M9 : Mm} (hX : Cy p s m args c meth cX11_init 2 RX11 "<init>" none P)  (hK135 : ∀ (M : Mm) (x0 : Nat) (x1 : Int32), K135 M x0 x1 = some M9 → Wq p l e s m args below meth c 1 15 none M9 2 P 15 135 [(0, .ref (pB P + x0)), (1, .int x1)] [] M) (M : Mm) (x0 : Nat) (x1 : Int32)  (h : BX11_init_135 N K135 M x0 x1 = some M9) : Wq p l e s m args below meth c 1 15 none M9 2 P 15 135 [(0, .ref (pB P + x0)), (1, .int x1)] [] M := by
  unfold BX11_init_135 at h
  have hX0 := hX
  obtain ⟨X, hr, hlk, hnm⟩ := hX0
  have hx := X.1.1
  have hb := X.1.2.1
  intro H locs ls hM hl
  refine lv_iload_n (pc := 135) hx hb dX11_init_135 rfl (lv_at hl 1 rfl) ?_
  refine lv_bipush (pc := 136) (v := (6 : Int32)) hx hb dX11_init_136 (by decide) ?_
  refine lv_icmp_ge (pc := 138) (tgt := 158) hx hb dX11_init_138 (by decide) (fun hc => ?_) (fun hc => ?_)
  · have h := if_t hc h
    obtain rfl := so1 h
    exact bz_vret (pc := 158) X hM hr hlk dX11_init_158 (Nat.le_of_ble_eq_true rfl) (Nat.le_of_ble_eq_true rfl)
  · have h := if_f hc h
    refine lv_aload_n (pc := 141) hx hb dX11_init_141 rfl (lv_at hl 0 rfl) ?_
    obtain ⟨q1, e2, h⟩ := ob h
    refine bz_getQ (pc := 142) X hM fl_RX11_9 e2 dX11_init_142 ?_
    refine lv_sipush (pc := 145) (v := (398 : Int32)) hx hb dX11_init_145 (by decide) ?_
    refine lv_iload_n (pc := 148) hx hb dX11_init_148 rfl (lv_at hl 1 rfl) ?_
    refine lv_iadd (pc := 149) hx hb dX11_init_149 ?_
    refine lv_iconst (pc := 150) (v := (1 : Int32)) hx hb dX11_init_150 (by decide) ?_
    obtain ⟨M3, e4, h⟩ := ob h
    refine bz_iast (pc := 151) X hM e4 dX11_init_151 (fun H locs hM => ?_)
    refine lv_iinc (pc := 152) (v := (x1 + (1 : Int32))) (lv' := [(1, .int (x1 + (1 : Int32))), (0, .ref (pB P + x0))]) hx hb dX11_init_152 hl (k := 1) rfl rfl (by decide) rfl (fun ls hl => ?_)
    refine lv_goto (pc := 155) (tgt := 135) hx hb dX11_init_155 (by decide) ?_
    exact hK135 _ _ _ h H locs ls hM (lv_sub hl [1, 0] rfl)
set_option maxHeartbeats 4000000 in
set_option maxRecDepth 100000 in
theorem wLX11_init_135 {p : Program} {l : Launch} {e : Env} {s : State} {m : MethodId} {args : Array Value} {below : List Frame} {meth : Method} {c : Code} {P : PT} {N : Nat}  {M9 : Mm} (hX : Cy p s m args c meth cX11_init 2 RX11 "<init>" none P)   : ∀ (n : Nat) (M : Mm) (x0 : Nat) (x1 : Int32) , LX11_init_135 N n M x0 x1 = some M9 → Wq p l e s m args below meth c 1 15 none M9 2 P 15 135 [(0, .ref (pB P + x0)), (1, .int x1)] [] M := by
  intro n
  induction n with
  | zero => intro M x0 x1 h; cases h
  | succ n ih => intro M x0 x1 h; exact wBX11_init_135 hX ih M x0 x1 h
set_option maxHeartbeats 4000000 in
set_option maxRecDepth 100000 in
theorem wX11_init {p : Program} {l : Launch} {e : Env} {s : State} {m : MethodId} {args : Array Value} {below : List Frame} {meth : Method} {c : Code} {P : PT} {N : Nat}  {M9 : Mm} (hX : Cy p s m args c meth cX11_init 2 RX11 "<init>" none P)  (M : Mm) (a0 : Nat) (h : fX11_init N M a0 = some M9) : Wq p l e s m args below meth c 1 15 none M9 2 P 0 0 [(0, .ref (pB P + a0))] [] M := by
  unfold fX11_init at h
  have hX0 := hX
  obtain ⟨X, hr, hlk, hnm⟩ := hX0
  have hx := X.1.1
  have hb := X.1.2.1
  intro H locs ls hM hl
  refine lv_aload_n (pc := 0) hx hb dX11_init_0 rfl (lv_at hl 0 rfl) ?_
  refine bz_obj (pc := 1) X hl.1 g_1189 m_oi m_oc (Nat.le_of_ble_eq_true rfl) (Nat.le_of_ble_eq_true rfl) dX11_init_1 ?_
  refine lv_aload_n (pc := 4) hx hb dX11_init_4 rfl (lv_at hl 0 rfl) ?_
  refine lv_sipush (pc := 5) (v := (950 : Int32)) hx hb dX11_init_5 (by decide) ?_
  obtain ⟨M1, e2, h⟩ := ob h
  refine bz_newa (pc := 8) X hM 0 .int (by decide) rfl (by decide) rfl g_129 e2 (Nat.le_of_ble_eq_true rfl) (Nat.le_of_ble_eq_true rfl) dX11_init_8 (fun H hM => ?_)
  obtain ⟨M3, e4, h⟩ := ob h
  refine bz_putQ (pc := 10) X hM fp_RX11_9 rfl (Or.inr hnm) e4 dX11_init_10 (fun H locs hM => ?_)
  refine lv_aload_n (pc := 13) hx hb dX11_init_13 rfl (lv_at hl 0 rfl) ?_
  refine lv_sipush (pc := 14) (v := (950 : Int32)) hx hb dX11_init_14 (by decide) ?_
  obtain ⟨M5, e6, h⟩ := ob h
  refine bz_newa (pc := 17) X hM 0 .int (by decide) rfl (by decide) rfl g_129 e6 (Nat.le_of_ble_eq_true rfl) (Nat.le_of_ble_eq_true rfl) dX11_init_17 (fun H hM => ?_)
  obtain ⟨M7, e8, h⟩ := ob h
  refine bz_putQ (pc := 19) X hM fp_RX11_13 rfl (Or.inr hnm) e8 dX11_init_19 (fun H locs hM => ?_)
  refine lv_aload_n (pc := 22) hx hb dX11_init_22 rfl (lv_at hl 0 rfl) ?_
  refine lv_bipush (pc := 23) (v := (6 : Int32)) hx hb dX11_init_23 (by decide) ?_
  obtain ⟨M9, e10, h⟩ := ob h
  refine bz_newa (pc := 25) X hM 0 .int (by decide) rfl (by decide) rfl g_129 e10 (Nat.le_of_ble_eq_true rfl) (Nat.le_of_ble_eq_true rfl) dX11_init_25 (fun H hM => ?_)
  obtain ⟨M11, e12, h⟩ := ob h
  refine bz_putQ (pc := 27) X hM fp_RX11_16 rfl (Or.inr hnm) e12 dX11_init_27 (fun H locs hM => ?_)
  refine lv_aload_n (pc := 30) hx hb dX11_init_30 rfl (lv_at hl 0 rfl) ?_
  refine lv_bipush (pc := 31) (v := (96 : Int32)) hx hb dX11_init_31 (by decide) ?_
  obtain ⟨M13, e14, h⟩ := ob h
  refine bz_newa (pc := 33) X hM 0 .int (by decide) rfl (by decide) rfl g_129 e14 (Nat.le_of_ble_eq_true rfl) (Nat.le_of_ble_eq_true rfl) dX11_init_33 (fun H hM => ?_)
  obtain ⟨M15, e16, h⟩ := ob h
  refine bz_putQ (pc := 35) X hM fp_RX11_19 rfl (Or.inr hnm) e16 dX11_init_35 (fun H locs hM => ?_)
  refine lv_aload_n (pc := 38) hx hb dX11_init_38 rfl (lv_at hl 0 rfl) ?_
  refine lv_bipush (pc := 39) (v := (96 : Int32)) hx hb dX11_init_39 (by decide) ?_
  obtain ⟨M17, e18, h⟩ := ob h
  refine bz_newa (pc := 41) X hM 1 .boolean (by decide) rfl (by decide) rfl g_1266 e18 (Nat.le_of_ble_eq_true rfl) (Nat.le_of_ble_eq_true rfl) dX11_init_41 (fun H hM => ?_)
  obtain ⟨M19, e20, h⟩ := ob h
  refine bz_putQ (pc := 43) X hM fp_RX11_22 rfl (Or.inr hnm) e20 dX11_init_43 (fun H locs hM => ?_)
  refine lv_aload_n (pc := 46) hx hb dX11_init_46 rfl (lv_at hl 0 rfl) ?_
  refine lv_iconst (pc := 47) (v := (4 : Int32)) hx hb dX11_init_47 (by decide) ?_
  obtain ⟨M21, e22, h⟩ := ob h
  refine bz_newa (pc := 48) X hM 0 .int (by decide) rfl (by decide) rfl g_129 e22 (Nat.le_of_ble_eq_true rfl) (Nat.le_of_ble_eq_true rfl) dX11_init_48 (fun H hM => ?_)
  obtain ⟨M23, e24, h⟩ := ob h
  refine bz_putQ (pc := 50) X hM fp_RX11_26 rfl (Or.inr hnm) e24 dX11_init_50 (fun H locs hM => ?_)
  refine lv_aload_n (pc := 53) hx hb dX11_init_53 rfl (lv_at hl 0 rfl) ?_
  refine lv_iconst (pc := 54) (v := (4 : Int32)) hx hb dX11_init_54 (by decide) ?_
  obtain ⟨M25, e26, h⟩ := ob h
  refine bz_newa (pc := 55) X hM 0 .int (by decide) rfl (by decide) rfl g_129 e26 (Nat.le_of_ble_eq_true rfl) (Nat.le_of_ble_eq_true rfl) dX11_init_55 (fun H hM => ?_)
  obtain ⟨M27, e28, h⟩ := ob h
  refine bz_putQ (pc := 57) X hM fp_RX11_29 rfl (Or.inr hnm) e28 dX11_init_57 (fun H locs hM => ?_)
  refine lv_aload_n (pc := 60) hx hb dX11_init_60 rfl (lv_at hl 0 rfl) ?_
  refine lv_sipush (pc := 61) (v := (160 : Int32)) hx hb dX11_init_61 (by decide) ?_
  obtain ⟨M29, e30, h⟩ := ob h
  refine bz_newa (pc := 64) X hM 0 .int (by decide) rfl (by decide) rfl g_129 e30 (Nat.le_of_ble_eq_true rfl) (Nat.le_of_ble_eq_true rfl) dX11_init_64 (fun H hM => ?_)
  obtain ⟨M31, e32, h⟩ := ob h
  refine bz_putQ (pc := 66) X hM fp_RX11_32 rfl (Or.inr hnm) e32 dX11_init_66 (fun H locs hM => ?_)
  refine lv_aload_n (pc := 69) hx hb dX11_init_69 rfl (lv_at hl 0 rfl) ?_
  refine lv_bipush (pc := 70) (v := (50 : Int32)) hx hb dX11_init_70 (by decide) ?_
  obtain ⟨M33, e34, h⟩ := ob h
  refine bz_newa (pc := 72) X hM 0 .int (by decide) rfl (by decide) rfl g_129 e34 (Nat.le_of_ble_eq_true rfl) (Nat.le_of_ble_eq_true rfl) dX11_init_72 (fun H hM => ?_)
  obtain ⟨M35, e36, h⟩ := ob h
  refine bz_putQ (pc := 74) X hM fp_RX11_35 rfl (Or.inr hnm) e36 dX11_init_74 (fun H locs hM => ?_)
  refine lv_aload_n (pc := 77) hx hb dX11_init_77 rfl (lv_at hl 0 rfl) ?_
  refine lv_iconst (pc := 78) (v := (4 : Int32)) hx hb dX11_init_78 (by decide) ?_
  obtain ⟨M37, e38, h⟩ := ob h
  refine bz_newa (pc := 79) X hM 0 .int (by decide) rfl (by decide) rfl g_129 e38 (Nat.le_of_ble_eq_true rfl) (Nat.le_of_ble_eq_true rfl) dX11_init_79 (fun H hM => ?_)
  obtain ⟨M39, e40, h⟩ := ob h
  refine bz_putQ (pc := 81) X hM fp_RX11_38 rfl (Or.inr hnm) e40 dX11_init_81 (fun H locs hM => ?_)
  refine lv_aload_n (pc := 84) hx hb dX11_init_84 rfl (lv_at hl 0 rfl) ?_
  refine lv_bipush (pc := 85) (v := (50 : Int32)) hx hb dX11_init_85 (by decide) ?_
  obtain ⟨M41, e42, h⟩ := ob h
  refine bz_newa (pc := 87) X hM 0 .int (by decide) rfl (by decide) rfl g_129 e42 (Nat.le_of_ble_eq_true rfl) (Nat.le_of_ble_eq_true rfl) dX11_init_87 (fun H hM => ?_)
  obtain ⟨M43, e44, h⟩ := ob h
  refine bz_putQ (pc := 89) X hM fp_RX11_41 rfl (Or.inr hnm) e44 dX11_init_89 (fun H locs hM => ?_)
  refine lv_aload_n (pc := 92) hx hb dX11_init_92 rfl (lv_at hl 0 rfl) ?_
  refine lv_bipush (pc := 93) (v := (41 : Int32)) hx hb dX11_init_93 (by decide) ?_
  obtain ⟨M45, e46, h⟩ := ob h
  refine bz_newa (pc := 95) X hM 0 .int (by decide) rfl (by decide) rfl g_129 e46 (Nat.le_of_ble_eq_true rfl) (Nat.le_of_ble_eq_true rfl) dX11_init_95 (fun H hM => ?_)
  obtain ⟨M47, e48, h⟩ := ob h
  refine bz_putQ (pc := 97) X hM fp_RX11_44 rfl (Or.inr hnm) e48 dX11_init_97 (fun H locs hM => ?_)
  refine lv_aload_n (pc := 100) hx hb dX11_init_100 rfl (lv_at hl 0 rfl) ?_
  refine lv_sipush (pc := 101) (v := (246 : Int32)) hx hb dX11_init_101 (by decide) ?_
  obtain ⟨M49, e50, h⟩ := ob h
  refine bz_newa (pc := 104) X hM 0 .int (by decide) rfl (by decide) rfl g_129 e50 (Nat.le_of_ble_eq_true rfl) (Nat.le_of_ble_eq_true rfl) dX11_init_104 (fun H hM => ?_)
  obtain ⟨M51, e52, h⟩ := ob h
  refine bz_putQ (pc := 106) X hM fp_RX11_47 rfl (Or.inr hnm) e52 dX11_init_106 (fun H locs hM => ?_)
  refine lv_aload_n (pc := 109) hx hb dX11_init_109 rfl (lv_at hl 0 rfl) ?_
  refine lv_bipush (pc := 110) (v := (12 : Int32)) hx hb dX11_init_110 (by decide) ?_
  obtain ⟨M53, e54, h⟩ := ob h
  refine bz_newa (pc := 112) X hM 0 .int (by decide) rfl (by decide) rfl g_129 e54 (Nat.le_of_ble_eq_true rfl) (Nat.le_of_ble_eq_true rfl) dX11_init_112 (fun H hM => ?_)
  obtain ⟨M55, e56, h⟩ := ob h
  refine bz_putQ (pc := 114) X hM fp_RX11_50 rfl (Or.inr hnm) e56 dX11_init_114 (fun H locs hM => ?_)
  refine lv_aload_n (pc := 117) hx hb dX11_init_117 rfl (lv_at hl 0 rfl) ?_
  refine lv_bipush (pc := 118) (v := (40 : Int32)) hx hb dX11_init_118 (by decide) ?_
  obtain ⟨M57, e58, h⟩ := ob h
  refine bz_newa (pc := 120) X hM 0 .int (by decide) rfl (by decide) rfl g_129 e58 (Nat.le_of_ble_eq_true rfl) (Nat.le_of_ble_eq_true rfl) dX11_init_120 (fun H hM => ?_)
  obtain ⟨M59, e60, h⟩ := ob h
  refine bz_putQ (pc := 122) X hM fp_RX11_53 rfl (Or.inr hnm) e60 dX11_init_122 (fun H locs hM => ?_)
  refine lv_aload_n (pc := 125) hx hb dX11_init_125 rfl (lv_at hl 0 rfl) ?_
  obtain ⟨q61, e62, h⟩ := ob h
  refine bz_getQ (pc := 126) X hM fl_RX11_9 e62 dX11_init_126 ?_
  refine lv_bipush (pc := 129) (v := (8 : Int32)) hx hb dX11_init_129 (by decide) ?_
  refine lv_iconst (pc := 131) (v := (1 : Int32)) hx hb dX11_init_131 (by decide) ?_
  obtain ⟨M63, e64, h⟩ := ob h
  refine bz_iast (pc := 132) X hM e64 dX11_init_132 (fun H locs hM => ?_)
  refine lv_iconst (pc := 133) (v := (0 : Int32)) hx hb dX11_init_133 (by decide) ?_
  refine lv_istore_n (pc := 134) (lv' := [(1, .int (0 : Int32)), (0, .ref (pB P + a0))]) hx hb dX11_init_134 rfl hl (by decide) rfl (fun ls hl => ?_)
  exact wLX11_init_135 hX _ _ _ _ h H locs ls hM (lv_sub hl [1, 0] rfl)
theorem ctX11_init (l : Launch) {P : PT} {N : Nat} {M : Mm} {a0 : Nat} {M9 : Mm} (h : fX11_init N M a0 = some M9) : Ct l yX11_init cX11_init 2 none 1 15 P [.ref (pB P + a0)] M none M9 :=
  Ct.mk (by decide +kernel) (Nat.le_of_ble_eq_true rfl) (fun p e s m args below meth c hX => wX11_init hX M a0 h)
set_option maxHeartbeats 4000000 in
set_option maxRecDepth 100000 in
theorem wX10_within {p : Program} {l : Launch} {e : Env} {s : State} {m : MethodId} {args : Array Value} {below : List Frame} {meth : Method} {c : Code} {P : PT}  {r9 : Int32} (hX : Cy p s m args c meth cX10_within 3 RX10 "within" (some .boolean) P)  (M : Mm) (a0 : Int32) (a1 : Int32) (a2 : Int32) (h : fX10_within M a0 a1 a2 = some r9) : Wq p l e s m args below meth c 0 0 (some (.int r9)) M 3 P 0 0 [(0, .int a0), (1, .int a1), (2, .int a2)] [] M := by
  unfold fX10_within at h
  have hX0 := hX
  obtain ⟨X, hr, hlk, hnm⟩ := hX0
  have hx := X.1.1
  have hb := X.1.2.1
  intro H locs ls hM hl
  refine lv_iload_n (pc := 0) hx hb dX10_within_0 rfl (lv_at hl 0 rfl) ?_
  refine lv_iload_n (pc := 1) hx hb dX10_within_1 rfl (lv_at hl 1 rfl) ?_
  refine lv_icmp_lt (pc := 2) (tgt := 14) hx hb dX10_within_2 (by decide) (fun hc => ?_) (fun hc => ?_)
  · have h := if_t hc h
    refine lv_iconst (pc := 14) (v := (0 : Int32)) hx hb dX10_within_14 (by decide) ?_
    obtain rfl := so1 h
    exact bz_zret (pc := 15) X hM hr hlk (by decide) dX10_within_15 (Nat.le_of_ble_eq_true rfl) (Nat.le_of_ble_eq_true rfl)
  · have h := if_f hc h
    refine lv_iload_n (pc := 5) hx hb dX10_within_5 rfl (lv_at hl 0 rfl) ?_
    refine lv_iload_n (pc := 6) hx hb dX10_within_6 rfl (lv_at hl 2 rfl) ?_
    refine lv_icmp_gt (pc := 7) (tgt := 14) hx hb dX10_within_7 (by decide) (fun hc => ?_) (fun hc => ?_)
    · have h := if_t hc h
      refine lv_iconst (pc := 14) (v := (0 : Int32)) hx hb dX10_within_14 (by decide) ?_
      obtain rfl := so1 h
      exact bz_zret (pc := 15) X hM hr hlk (by decide) dX10_within_15 (Nat.le_of_ble_eq_true rfl) (Nat.le_of_ble_eq_true rfl)
    · have h := if_f hc h
      refine lv_iconst (pc := 10) (v := (1 : Int32)) hx hb dX10_within_10 (by decide) ?_
      refine lv_goto (pc := 11) (tgt := 15) hx hb dX10_within_11 (by decide) ?_
      obtain rfl := so1 h
      exact bz_zret (pc := 15) X hM hr hlk (by decide) dX10_within_15 (Nat.le_of_ble_eq_true rfl) (Nat.le_of_ble_eq_true rfl)
theorem ctX10_within (l : Launch) {P : PT} {M : Mm} {a0 : Int32} {a1 : Int32} {a2 : Int32} {r9 : Int32} (h : fX10_within M a0 a1 a2 = some r9) : Ct l yX10_within cX10_within 3 (some .boolean) 0 0 P [.int a0, .int a1, .int a2] M (some (.int r9)) M :=
  Ct.mk (by decide +kernel) (Nat.le_of_ble_eq_true rfl) (fun p e s m args below meth c hX => wX10_within hX M a0 a1 a2 h)
set_option maxHeartbeats 4000000 in
set_option maxRecDepth 100000 in
theorem wX3_has {p : Program} {l : Launch} {e : Env} {s : State} {m : MethodId} {args : Array Value} {below : List Frame} {meth : Method} {c : Code} {P : PT}  {r9 : Int32} (hX : Cy p s m args c meth cX3_has 2 RX3 "has" (some .boolean) P)  (M : Mm) (a0 : Nat) (a1 : Int32) (h : fX3_has M a0 a1 = some r9) : Wq p l e s m args below meth c 0 0 (some (.int r9)) M 2 P 0 0 [(0, .ref (pB P + a0)), (1, .int a1)] [] M := by
  unfold fX3_has at h
  obtain ⟨_, _, h⟩ := ob h
  have hX0 := hX
  obtain ⟨X, hr, hlk, hnm⟩ := hX0
  have hx := X.1.1
  have hb := X.1.2.1
  intro H locs ls hM hl
  refine lv_iload_n (pc := 0) hx hb dX3_has_0 rfl (lv_at hl 1 rfl) ?_
  refine lv_if_lt (pc := 1) (tgt := 25) hx hb dX3_has_1 (by decide) (fun hc => ?_) (fun hc => ?_)
  · have h := if_t hc h
    refine lv_iconst (pc := 25) (v := (0 : Int32)) hx hb dX3_has_25 (by decide) ?_
    obtain rfl := so1 h
    exact bz_zret (pc := 26) X hM hr hlk (by decide) dX3_has_26 (Nat.le_of_ble_eq_true rfl) (Nat.le_of_ble_eq_true rfl)
  · have h := if_f hc h
    refine lv_iload_n (pc := 4) hx hb dX3_has_4 rfl (lv_at hl 1 rfl) ?_
    refine lv_aload_n (pc := 5) hx hb dX3_has_5 rfl (lv_at hl 0 rfl) ?_
    obtain ⟨v1, e2, h⟩ := ob h
    refine bz_getI (pc := 6) X hM fl_RX3_19 e2 dX3_has_6 ?_
    refine lv_icmp_ge (pc := 9) (tgt := 25) hx hb dX3_has_9 (by decide) (fun hc => ?_) (fun hc => ?_)
    · have h := if_t hc h
      refine lv_iconst (pc := 25) (v := (0 : Int32)) hx hb dX3_has_25 (by decide) ?_
      obtain rfl := so1 h
      exact bz_zret (pc := 26) X hM hr hlk (by decide) dX3_has_26 (Nat.le_of_ble_eq_true rfl) (Nat.le_of_ble_eq_true rfl)
    · have h := if_f hc h
      refine lv_iload_n (pc := 12) hx hb dX3_has_12 rfl (lv_at hl 1 rfl) ?_
      refine lv_aload_n (pc := 13) hx hb dX3_has_13 rfl (lv_at hl 0 rfl) ?_
      obtain ⟨q3, e4, h⟩ := ob h
      refine bz_getQ (pc := 14) X hM fl_RX3_13 e4 dX3_has_14 ?_
      obtain ⟨v5, e6, h⟩ := ob h
      refine bz_alen (pc := 17) X hM e6 dX3_has_17 ?_
      refine lv_icmp_ge (pc := 18) (tgt := 25) hx hb dX3_has_18 (by decide) (fun hc => ?_) (fun hc => ?_)
      · have h := if_t hc h
        refine lv_iconst (pc := 25) (v := (0 : Int32)) hx hb dX3_has_25 (by decide) ?_
        obtain rfl := so1 h
        exact bz_zret (pc := 26) X hM hr hlk (by decide) dX3_has_26 (Nat.le_of_ble_eq_true rfl) (Nat.le_of_ble_eq_true rfl)
      · have h := if_f hc h
        refine lv_iconst (pc := 21) (v := (1 : Int32)) hx hb dX3_has_21 (by decide) ?_
        refine lv_goto (pc := 22) (tgt := 26) hx hb dX3_has_22 (by decide) ?_
        obtain rfl := so1 h
        exact bz_zret (pc := 26) X hM hr hlk (by decide) dX3_has_26 (Nat.le_of_ble_eq_true rfl) (Nat.le_of_ble_eq_true rfl)
theorem rX3_has {M : Mm} {a0 : Nat} {a1 : Int32} {r9 : Int32} (h : fX3_has M a0 a1 = some r9) : ∃ fs, M[a0]? = some (.inr (3, fs)) := by
  unfold fX3_has at h
  obtain ⟨_, e1, _⟩ := ob h
  exact gC_spec e1
theorem ctX3_has (l : Launch) {P : PT} {M : Mm} {a0 : Nat} {a1 : Int32} {r9 : Int32} (h : fX3_has M a0 a1 = some r9) : Ct l yX3_has cX3_has 2 (some .boolean) 0 0 P [.ref (pB P + a0), .int a1] M (some (.int r9)) M :=
  Ct.mk (by decide +kernel) (Nat.le_of_ble_eq_true rfl) (fun p e s m args below meth c hX => wX3_has hX M a0 a1 h)
