set_option maxHeartbeats 4000000 in
set_option maxRecDepth 100000 in
theorem wX11_let {p : Program} {l : Launch} {e : Env} {s : State} {m : MethodId} {args : Array Value} {below : List Frame} {meth : Method} {c : Code} {P : PT}  {r9 : Int32} {M9 : Mm} (hX : Cy p s m args c meth cX11_let 2 RX11 "let" (some .int) P)  (M : Mm) (a0 : Nat) (a1 : Int32) (h : fX11_let M a0 a1 = some (r9, M9)) : Wq p l e s m args below meth c 1 0 (some (.int r9)) M9 2 P 0 0 [(0, .ref (pB P + a0)), (1, .int a1)] [] M := by
  unfold fX11_let at h
  obtain ⟨_, _, h⟩ := ob h
  have hX0 := hX
  obtain ⟨X, hr, hlk, hnm⟩ := hX0
  have hx := X.1.1
  have hb := X.1.2.1
  intro H locs ls hM hl
  refine lv_iload_n (pc := 0) hx hb dX11_let_0 rfl (lv_at hl 1 rfl) ?_
  refine lv_i2l (pc := 1) (v := ((a1).toInt64)) hx hb dX11_let_1 rfl ?_
  refine lv_lconst (pc := 2) (v := (0 : Int64)) hx hb dX11_let_2 (by decide) ?_
  refine lv_ldc2 (pc := 3) (v := (9999 : Int64)) hx hb X.1.2.2.2.1 (X.1.2.2.2.2 _ g_1297) dX11_let_3 ?_
  obtain ⟨v2, e1, h⟩ := ob h
  refine bz_callS1 (pc := 6) (As := [.long ((a1).toInt64), .long (0 : Int64), .long (9999 : Int64)]) (rest := []) X hM hl.1 k_RX11_57 (ctX11_in l e1) rfl rfl ⟨(Nat.le_of_ble_eq_true rfl), (Nat.le_of_ble_eq_true rfl)⟩ (Nat.le_of_ble_eq_true rfl) ⟨(Nat.le_of_ble_eq_true rfl), (Nat.le_of_ble_eq_true rfl)⟩ dX11_let_6 (fun H locs hM => ?_)
  refine lv_if_ne (pc := 9) (tgt := 18) hx hb dX11_let_9 (by decide) (fun hc => ?_) (fun hc => ?_)
  · have h := if_f hc h
    refine lv_aload_n (pc := 18) hx hb dX11_let_18 rfl (lv_at hl 0 rfl) ?_
    obtain ⟨q3, e4, h⟩ := ob h
    refine bz_getQ (pc := 19) X hM fl_RX11_9 e4 dX11_let_19 ?_
    refine lv_iconst (pc := 22) (v := (4 : Int32)) hx hb dX11_let_22 (by decide) ?_
    obtain ⟨v5, e6, h⟩ := ob h
    refine bz_iald (pc := 23) X hM e6 dX11_let_23 ?_
    refine lv_bipush (pc := 24) (v := (10 : Int32)) hx hb dX11_let_24 (by decide) ?_
    refine lv_icmp_ne (pc := 26) (tgt := 35) hx hb dX11_let_26 (by decide) (fun hc => ?_) (fun hc => ?_)
    · have h := if_f hc h
      refine lv_aload_n (pc := 35) hx hb dX11_let_35 rfl (lv_at hl 0 rfl) ?_
      obtain ⟨q7, e8, h⟩ := ob h
      refine bz_getQ (pc := 36) X hM fl_RX11_9 e8 dX11_let_36 ?_
      refine lv_sipush (pc := 39) (v := (372 : Int32)) hx hb dX11_let_39 (by decide) ?_
      refine lv_aload_n (pc := 42) hx hb dX11_let_42 rfl (lv_at hl 0 rfl) ?_
      obtain ⟨q9, e10, h⟩ := ob h
      refine bz_getQ (pc := 43) X hM fl_RX11_9 e10 dX11_let_43 ?_
      refine lv_iconst (pc := 46) (v := (4 : Int32)) hx hb dX11_let_46 (by decide) ?_
      obtain ⟨v11, e12, h⟩ := ob h
      refine bz_iald (pc := 47) X hM e12 dX11_let_47 ?_
      refine lv_iadd (pc := 48) hx hb dX11_let_48 ?_
      refine lv_iload_n (pc := 49) hx hb dX11_let_49 rfl (lv_at hl 1 rfl) ?_
      obtain ⟨M13, e14, h⟩ := ob h
      refine bz_iast (pc := 50) X hM e14 dX11_let_50 (fun H locs hM => ?_)
      refine lv_aload_n (pc := 51) hx hb dX11_let_51 rfl (lv_at hl 0 rfl) ?_
      obtain ⟨q15, e16, h⟩ := ob h
      refine bz_getQ (pc := 52) X hM fl_RX11_9 e16 dX11_let_52 ?_
      refine lv_iconst (pc := 55) (v := (4 : Int32)) hx hb dX11_let_55 (by decide) ?_
      refine lv_dup2_11 (pc := 56) hx hb dX11_let_56 rfl rfl ?_
      obtain ⟨v17, e18, h⟩ := ob h
      refine bz_iald (pc := 57) X hM e18 dX11_let_57 ?_
      refine lv_iconst (pc := 58) (v := (1 : Int32)) hx hb dX11_let_58 (by decide) ?_
      refine lv_iadd (pc := 59) hx hb dX11_let_59 ?_
      obtain ⟨M19, e20, h⟩ := ob h
      refine bz_iast (pc := 60) X hM e20 dX11_let_60 (fun H locs hM => ?_)
      refine lv_aload_n (pc := 61) hx hb dX11_let_61 rfl (lv_at hl 0 rfl) ?_
      obtain ⟨q21, e22, h⟩ := ob h
      refine bz_getQ (pc := 62) X hM fl_RX11_9 e22 dX11_let_62 ?_
      refine lv_iconst (pc := 65) (v := (4 : Int32)) hx hb dX11_let_65 (by decide) ?_
      obtain ⟨v23, e24, h⟩ := ob h
      refine bz_iald (pc := 66) X hM e24 dX11_let_66 ?_
      refine lv_iconst (pc := 67) (v := (1 : Int32)) hx hb dX11_let_67 (by decide) ?_
      refine lv_isub (pc := 68) hx hb dX11_let_68 ?_
      obtain ⟨rfl, rfl⟩ := so2 h
      exact bz_iret (pc := 69) X hM hr hlk dX11_let_69 (Nat.le_of_ble_eq_true rfl) (Nat.le_of_ble_eq_true rfl)
    · have h := if_t hc h
      refine lv_aload_n (pc := 29) hx hb dX11_let_29 rfl (lv_at hl 0 rfl) ?_
      refine lv_iconst (pc := 30) (v := (4 : Int32)) hx hb dX11_let_30 (by decide) ?_
      obtain ⟨v26, M27, e25, h⟩ := ob2 h
      obtain ⟨fs28, hb29⟩ := (rX11_error e25)
      refine bz_callV1 (pc := 31) (As := [.int (4 : Int32)]) (rest := []) X hM hl.1 k_RX11_73 (ctX11_error l e25) rfl hb29 rfl rfl ⟨(Nat.le_of_ble_eq_true rfl), (Nat.le_of_ble_eq_true rfl)⟩ (Nat.le_of_ble_eq_true rfl) ⟨(Nat.le_of_ble_eq_true rfl), (Nat.le_of_ble_eq_true rfl)⟩ dX11_let_31 (fun H locs hM => ?_)
      obtain ⟨rfl, rfl⟩ := so2 h
      exact bz_iret (pc := 34) X hM hr hlk dX11_let_34 (Nat.le_of_ble_eq_true rfl) (Nat.le_of_ble_eq_true rfl)
  · have h := if_t hc h
    refine lv_aload_n (pc := 12) hx hb dX11_let_12 rfl (lv_at hl 0 rfl) ?_
    refine lv_iconst (pc := 13) (v := (1 : Int32)) hx hb dX11_let_13 (by decide) ?_
    obtain ⟨v31, M32, e30, h⟩ := ob2 h
    obtain ⟨fs33, hb34⟩ := (rX11_error e30)
    refine bz_callV1 (pc := 14) (As := [.int (1 : Int32)]) (rest := []) X hM hl.1 k_RX11_73 (ctX11_error l e30) rfl hb34 rfl rfl ⟨(Nat.le_of_ble_eq_true rfl), (Nat.le_of_ble_eq_true rfl)⟩ (Nat.le_of_ble_eq_true rfl) ⟨(Nat.le_of_ble_eq_true rfl), (Nat.le_of_ble_eq_true rfl)⟩ dX11_let_14 (fun H locs hM => ?_)
    obtain ⟨rfl, rfl⟩ := so2 h
    exact bz_iret (pc := 17) X hM hr hlk dX11_let_17 (Nat.le_of_ble_eq_true rfl) (Nat.le_of_ble_eq_true rfl)
theorem rX11_let {M : Mm} {a0 : Nat} {a1 : Int32} {r9 : Int32 × Mm} (h : fX11_let M a0 a1 = some r9) : ∃ fs, M[a0]? = some (.inr (11, fs)) := by
  unfold fX11_let at h
  obtain ⟨_, e1, _⟩ := ob h
  exact gC_spec e1
theorem ctX11_let (l : Launch) {P : PT} {M : Mm} {a0 : Nat} {a1 : Int32} {r9 : Int32} {M9 : Mm} (h : fX11_let M a0 a1 = some (r9, M9)) : Ct l yX11_let cX11_let 2 (some .int) 1 0 P [.ref (pB P + a0), .int a1] M (some (.int r9)) M9 :=
  Ct.mk (by decide +kernel) (Nat.le_of_ble_eq_true rfl) (fun p e s m args below meth c hX => wX11_let hX M a0 a1 h)
set_option maxHeartbeats 4000000 in
set_option maxRecDepth 100000 in
theorem wJ9_abs_0f7a4 {p : Program} {l : Launch} {e : Env} {s : State} {m : MethodId} {args : Array Value} {below : List Frame} {meth : Method} {c : Code} {P : PT}  {r9 : Int32} (hX : Cy p s m args c meth cJ9_abs_0f7a4 1 RJ9 "abs" (some .int) P)  (M : Mm) (a0 : Int32) (h : fJ9_abs_0f7a4 M a0 = some r9) : Wq p l e s m args below meth c 0 0 (some (.int r9)) M 1 P 0 0 [(0, .int a0)] [] M := by
  unfold fJ9_abs_0f7a4 at h
  have hX0 := hX
  obtain ⟨X, hr, hlk, hnm⟩ := hX0
  have hx := X.1.1
  have hb := X.1.2.1
  intro H locs ls hM hl
  refine lv_iload_n (pc := 0) hx hb dJ9_abs_0f7a4_0 rfl (lv_at hl 0 rfl) ?_
  refine lv_if_ge (pc := 1) (tgt := 9) hx hb dJ9_abs_0f7a4_1 (by decide) (fun hc => ?_) (fun hc => ?_)
  · have h := if_t hc h
    refine lv_iload_n (pc := 9) hx hb dJ9_abs_0f7a4_9 rfl (lv_at hl 0 rfl) ?_
    obtain rfl := so1 h
    exact bz_iret (pc := 10) X hM hr hlk dJ9_abs_0f7a4_10 (Nat.le_of_ble_eq_true rfl) (Nat.le_of_ble_eq_true rfl)
  · have h := if_f hc h
    refine lv_iload_n (pc := 4) hx hb dJ9_abs_0f7a4_4 rfl (lv_at hl 0 rfl) ?_
    refine lv_ineg (pc := 5) hx hb dJ9_abs_0f7a4_5 ?_
    refine lv_goto (pc := 6) (tgt := 10) hx hb dJ9_abs_0f7a4_6 (by decide) ?_
    obtain rfl := so1 h
    exact bz_iret (pc := 10) X hM hr hlk dJ9_abs_0f7a4_10 (Nat.le_of_ble_eq_true rfl) (Nat.le_of_ble_eq_true rfl)
theorem ctJ9_abs_0f7a4 (l : Launch) {P : PT} {M : Mm} {a0 : Int32} {r9 : Int32} (h : fJ9_abs_0f7a4 M a0 = some r9) : Ct l yJ9_abs_0f7a4 cJ9_abs_0f7a4 1 (some .int) 0 0 P [.int a0] M (some (.int r9)) M :=
  Ct.mk (by decide +kernel) (Nat.le_of_ble_eq_true rfl) (fun p e s m args below meth c hX => wJ9_abs_0f7a4 hX M a0 h)
set_option maxHeartbeats 4000000 in
set_option maxRecDepth 100000 in
theorem wBX3_hasNear_2 {p : Program} {l : Launch} {e : Env} {s : State} {m : MethodId} {args : Array Value} {below : List Frame} {meth : Method} {c : Code} {P : PT} {N : Nat} {K2 : Mm → Nat → Int32 → Int32 → Int32 → Option (Int32)}  {r9 : Int32} (hX : Cy p s m args c meth cX3_hasNear 4 RX3 "hasNear" (some .boolean) P)  (hK2 : ∀ (M : Mm) (x0 : Nat) (x1 : Int32) (x2 : Int32) (x3 : Int32), K2 M x0 x1 x2 x3 = some r9 → Wq p l e s m args below meth c 1 0 (some (.int r9)) M 4 P 0 2 [(0, .ref (pB P + x0)), (1, .int x1), (2, .int x2), (3, .int x3)] [] M) (M : Mm) (x0 : Nat) (x1 : Int32) (x2 : Int32) (x3 : Int32)  (h : BX3_hasNear_2 N K2 M x0 x1 x2 x3 = some r9) : Wq p l e s m args below meth c 1 0 (some (.int r9)) M 4 P 0 2 [(0, .ref (pB P + x0)), (1, .int x1), (2, .int x2), (3, .int x3)] [] M := by
  unfold BX3_hasNear_2 at h
  have hX0 := hX
  obtain ⟨X, hr, hlk, hnm⟩ := hX0
  have hx := X.1.1
  have hb := X.1.2.1
  intro H locs ls hM hl
  refine lv_iload_n (pc := 2) hx hb dX3_hasNear_2 rfl (lv_at hl 3 rfl) ?_
  refine lv_aload_n (pc := 3) hx hb dX3_hasNear_3 rfl (lv_at hl 0 rfl) ?_
  obtain ⟨v1, e2, h⟩ := ob h
  refine bz_getI (pc := 4) X hM fl_RX3_19 e2 dX3_hasNear_4 ?_
  refine lv_icmp_ge (pc := 7) (tgt := 32) hx hb dX3_hasNear_7 (by decide) (fun hc => ?_) (fun hc => ?_)
  · have h := if_t hc h
    refine lv_iconst (pc := 32) (v := (0 : Int32)) hx hb dX3_hasNear_32 (by decide) ?_
    obtain rfl := so1 h
    exact bz_zret (pc := 33) X hM hr hlk (by decide) dX3_hasNear_33 (Nat.le_of_ble_eq_true rfl) (Nat.le_of_ble_eq_true rfl)
  · have h := if_f hc h
    refine lv_aload_n (pc := 10) hx hb dX3_hasNear_10 rfl (lv_at hl 0 rfl) ?_
    refine lv_iload_n (pc := 11) hx hb dX3_hasNear_11 rfl (lv_at hl 3 rfl) ?_
    obtain ⟨v4, e3, h⟩ := ob h
    obtain ⟨fs5, hb6⟩ := (rX3_at e3)
    refine bz_callV1 (pc := 12) (As := [.int x3]) (rest := []) X hM hl.1 k_RX3_42 (ctX3_at l e3) rfl hb6 rfl rfl ⟨(Nat.le_of_ble_eq_true rfl), (Nat.le_of_ble_eq_true rfl)⟩ (Nat.le_of_ble_eq_true rfl) ⟨(Nat.le_of_ble_eq_true rfl), (Nat.le_of_ble_eq_true rfl)⟩ dX3_hasNear_12 (fun H locs hM => ?_)
    refine lv_iload_n (pc := 15) hx hb dX3_hasNear_15 rfl (lv_at hl 1 rfl) ?_
    refine lv_isub (pc := 16) hx hb dX3_hasNear_16 ?_
    obtain ⟨v8, e7, h⟩ := ob h
    refine bz_callS1 (pc := 17) (As := [.int (v4 - x1)]) (rest := []) X hM hl.1 k_RX3_46 (ctJ9_abs_0f7a4 l e7) rfl rfl ⟨(Nat.le_of_ble_eq_true rfl), (Nat.le_of_ble_eq_true rfl)⟩ (Nat.le_of_ble_eq_true rfl) ⟨(Nat.le_of_ble_eq_true rfl), (Nat.le_of_ble_eq_true rfl)⟩ dX3_hasNear_17 (fun H locs hM => ?_)
    refine lv_iload_n (pc := 20) hx hb dX3_hasNear_20 rfl (lv_at hl 2 rfl) ?_
    refine lv_icmp_gt (pc := 21) (tgt := 26) hx hb dX3_hasNear_21 (by decide) (fun hc => ?_) (fun hc => ?_)
    · have h := if_t hc h
      refine lv_iinc (pc := 26) (v := (x3 + (1 : Int32))) (lv' := [(3, .int (x3 + (1 : Int32))), (0, .ref (pB P + x0)), (1, .int x1), (2, .int x2)]) hx hb dX3_hasNear_26 hl (k := 3) rfl rfl (by decide) rfl (fun ls hl => ?_)
      refine lv_goto (pc := 29) (tgt := 2) hx hb dX3_hasNear_29 (by decide) ?_
      exact hK2 _ _ _ _ _ h H locs ls hM (lv_sub hl [1, 2, 3, 0] rfl)
    · have h := if_f hc h
      refine lv_iconst (pc := 24) (v := (1 : Int32)) hx hb dX3_hasNear_24 (by decide) ?_
      obtain rfl := so1 h
      exact bz_zret (pc := 25) X hM hr hlk (by decide) dX3_hasNear_25 (Nat.le_of_ble_eq_true rfl) (Nat.le_of_ble_eq_true rfl)
set_option maxHeartbeats 4000000 in
set_option maxRecDepth 100000 in
theorem wLX3_hasNear_2 {p : Program} {l : Launch} {e : Env} {s : State} {m : MethodId} {args : Array Value} {below : List Frame} {meth : Method} {c : Code} {P : PT} {N : Nat}  {r9 : Int32} (hX : Cy p s m args c meth cX3_hasNear 4 RX3 "hasNear" (some .boolean) P)   : ∀ (n : Nat) (M : Mm) (x0 : Nat) (x1 : Int32) (x2 : Int32) (x3 : Int32) , LX3_hasNear_2 N n M x0 x1 x2 x3 = some r9 → Wq p l e s m args below meth c 1 0 (some (.int r9)) M 4 P 0 2 [(0, .ref (pB P + x0)), (1, .int x1), (2, .int x2), (3, .int x3)] [] M := by
  intro n
  induction n with
  | zero => intro M x0 x1 x2 x3 h; cases h
  | succ n ih => intro M x0 x1 x2 x3 h; exact wBX3_hasNear_2 hX ih M x0 x1 x2 x3 h
set_option maxHeartbeats 4000000 in
set_option maxRecDepth 100000 in
theorem wX3_hasNear {p : Program} {l : Launch} {e : Env} {s : State} {m : MethodId} {args : Array Value} {below : List Frame} {meth : Method} {c : Code} {P : PT} {N : Nat}  {r9 : Int32} (hX : Cy p s m args c meth cX3_hasNear 4 RX3 "hasNear" (some .boolean) P)  (M : Mm) (a0 : Nat) (a1 : Int32) (a2 : Int32) (h : fX3_hasNear N M a0 a1 a2 = some r9) : Wq p l e s m args below meth c 1 0 (some (.int r9)) M 4 P 0 0 [(0, .ref (pB P + a0)), (1, .int a1), (2, .int a2)] [] M := by
  unfold fX3_hasNear at h
  obtain ⟨_, _, h⟩ := ob h
  have hX0 := hX
  obtain ⟨X, hr, hlk, hnm⟩ := hX0
  have hx := X.1.1
  have hb := X.1.2.1
  intro H locs ls hM hl
  refine lv_iconst (pc := 0) (v := (0 : Int32)) hx hb dX3_hasNear_0 (by decide) ?_
  refine lv_istore_n (pc := 1) (lv' := [(3, .int (0 : Int32)), (0, .ref (pB P + a0)), (1, .int a1), (2, .int a2)]) hx hb dX3_hasNear_1 rfl hl (by decide) rfl (fun ls hl => ?_)
  exact wLX3_hasNear_2 hX _ _ _ _ _ _ h H locs ls hM (lv_sub hl [1, 2, 3, 0] rfl)
theorem rX3_hasNear {N : Nat} {M : Mm} {a0 : Nat} {a1 : Int32} {a2 : Int32} {r9 : Int32} (h : fX3_hasNear N M a0 a1 a2 = some r9) : ∃ fs, M[a0]? = some (.inr (3, fs)) := by
  unfold fX3_hasNear at h
  obtain ⟨_, e1, _⟩ := ob h
  exact gC_spec e1
theorem ctX3_hasNear (l : Launch) {P : PT} {N : Nat} {M : Mm} {a0 : Nat} {a1 : Int32} {a2 : Int32} {r9 : Int32} (h : fX3_hasNear N M a0 a1 a2 = some r9) : Ct l yX3_hasNear cX3_hasNear 4 (some .boolean) 1 0 P [.ref (pB P + a0), .int a1, .int a2] M (some (.int r9)) M :=
  Ct.mk (by decide +kernel) (Nat.le_of_ble_eq_true rfl) (fun p e s m args below meth c hX => wX3_hasNear hX M a0 a1 a2 h)
set_option maxHeartbeats 4000000 in
set_option maxRecDepth 100000 in
theorem wBX10_seen_64 {p : Program} {l : Launch} {e : Env} {s : State} {m : MethodId} {args : Array Value} {below : List Frame} {meth : Method} {c : Code} {P : PT} {N : Nat} {K64 : Mm → Nat → Int32 → Int32 → Int32 → Int32 → Option (Int32 × Mm)}  {r9 : Int32} {M9 : Mm} (hX : Cy p s m args c meth cX10_seen 7 RX10 "seen" (some .int) P)  (hK64 : ∀ (M : Mm) (x0 : Nat) (x3 : Int32) (x4 : Int32) (x5 : Int32) (x6 : Int32), K64 M x0 x3 x4 x5 x6 = some (r9, M9) → Wq p l e s m args below meth c 5 0 (some (.int r9)) M9 7 P 0 64 [(0, .ref (pB P + x0)), (3, .int x3), (4, .int x4), (5, .int x5), (6, .int x6)] [] M) (M : Mm) (x0 : Nat) (x3 : Int32) (x4 : Int32) (x5 : Int32) (x6 : Int32)  (h : BX10_seen_64 N K64 M x0 x3 x4 x5 x6 = some (r9, M9)) : Wq p l e s m args below meth c 5 0 (some (.int r9)) M9 7 P 0 64 [(0, .ref (pB P + x0)), (3, .int x3), (4, .int x4), (5, .int x5), (6, .int x6)] [] M := by
  unfold BX10_seen_64 at h
  have hX0 := hX
  obtain ⟨X, hr, hlk, hnm⟩ := hX0
  have hx := X.1.1
  have hb := X.1.2.1
  intro H locs ls hM hl
  refine lv_iload (pc := 64) hx hb dX10_seen_64 (lv_at hl 4 rfl) ?_
  refine lv_aload_n (pc := 66) hx hb dX10_seen_66 rfl (lv_at hl 0 rfl) ?_
  obtain ⟨q1, e2, h⟩ := ob h
  refine bz_getQ (pc := 67) X hM fl_RX10_10 e2 dX10_seen_67 ?_
  obtain ⟨q3, e4, h⟩ := ob h
  refine bz_getQ (pc := 70) X hM fl_RX10_290 e4 dX10_seen_70 ?_
  obtain ⟨v6, e5, h⟩ := ob h
  obtain ⟨fs7, hb8⟩ := (rX3_size e5)
  refine bz_callV1 (pc := 73) (As := []) (rest := [.int x6]) X hM hl.1 k_RX10_96 (ctX3_size l e5) rfl hb8 rfl rfl ⟨(Nat.le_of_ble_eq_true rfl), (Nat.le_of_ble_eq_true rfl)⟩ (Nat.le_of_ble_eq_true rfl) ⟨(Nat.le_of_ble_eq_true rfl), (Nat.le_of_ble_eq_true rfl)⟩ dX10_seen_73 (fun H locs hM => ?_)
  refine lv_icmp_ge (pc := 76) (tgt := 123) hx hb dX10_seen_76 (by decide) (fun hc => ?_) (fun hc => ?_)
  · have h := if_t hc h
    refine lv_iload (pc := 123) hx hb dX10_seen_123 (lv_at hl 3 rfl) ?_
    obtain ⟨rfl, rfl⟩ := so2 h
    exact bz_iret (pc := 125) X hM hr hlk dX10_seen_125 (Nat.le_of_ble_eq_true rfl) (Nat.le_of_ble_eq_true rfl)
  · have h := if_f hc h
    refine lv_aload_n (pc := 79) hx hb dX10_seen_79 rfl (lv_at hl 0 rfl) ?_
    obtain ⟨q9, e10, h⟩ := ob h
    refine bz_getQ (pc := 80) X hM fl_RX10_49 e10 dX10_seen_80 ?_
    obtain ⟨q11, e12, h⟩ := ob h
    refine bz_getQ (pc := 83) X hM fl_RX10_296 e12 dX10_seen_83 ?_
    refine lv_aload_n (pc := 86) hx hb dX10_seen_86 rfl (lv_at hl 0 rfl) ?_
    obtain ⟨q13, e14, h⟩ := ob h
    refine bz_getQ (pc := 87) X hM fl_RX10_10 e14 dX10_seen_87 ?_
    obtain ⟨q15, e16, h⟩ := ob h
    refine bz_getQ (pc := 90) X hM fl_RX10_290 e16 dX10_seen_90 ?_
    refine lv_iload (pc := 93) hx hb dX10_seen_93 (lv_at hl 4 rfl) ?_
    obtain ⟨v18, e17, h⟩ := ob h
    obtain ⟨fs19, hb20⟩ := (rX3_at e17)
    refine bz_callV1 (pc := 95) (As := [.int x6]) (rest := [.ref (pB P + q11)]) X hM hl.1 k_RX10_121 (ctX3_at l e17) rfl hb20 rfl rfl ⟨(Nat.le_of_ble_eq_true rfl), (Nat.le_of_ble_eq_true rfl)⟩ (Nat.le_of_ble_eq_true rfl) ⟨(Nat.le_of_ble_eq_true rfl), (Nat.le_of_ble_eq_true rfl)⟩ dX10_seen_95 (fun H locs hM => ?_)
    refine lv_iload (pc := 98) hx hb dX10_seen_98 (lv_at hl 2 rfl) ?_
    refine lv_iadd (pc := 100) hx hb dX10_seen_100 ?_
    refine lv_iload_n (pc := 101) hx hb dX10_seen_101 rfl (lv_at hl 1 rfl) ?_
    obtain ⟨v22, e21, h⟩ := ob h
    obtain ⟨fs23, hb24⟩ := (rX3_hasNear e21)
    refine bz_callV1 (pc := 102) (As := [.int (v18 + x4), .int x3]) (rest := []) X hM hl.1 k_RX10_299 (ctX3_hasNear l e21) rfl hb24 rfl rfl ⟨(Nat.le_of_ble_eq_true rfl), (Nat.le_of_ble_eq_true rfl)⟩ (Nat.le_of_ble_eq_true rfl) ⟨(Nat.le_of_ble_eq_true rfl), (Nat.le_of_ble_eq_true rfl)⟩ dX10_seen_102 (fun H locs hM => ?_)
    refine lv_if_eq (pc := 105) (tgt := 117) hx hb dX10_seen_105 (by decide) (fun hc => ?_) (fun hc => ?_)
    · have h := if_t hc h
      refine lv_iinc (pc := 117) (v := (x6 + (1 : Int32))) (lv' := [(6, .int (x6 + (1 : Int32))), (0, .ref (pB P + x0)), (3, .int x3), (4, .int x4), (5, .int x5)]) hx hb dX10_seen_117 hl (k := 4) rfl rfl (by decide) rfl (fun ls hl => ?_)
      refine lv_goto (pc := 120) (tgt := 64) hx hb dX10_seen_120 (by decide) ?_
      exact hK64 _ _ _ _ _ _ h H locs ls hM (lv_sub hl [1, 2, 3, 4, 0] rfl)
    · have h := if_f hc h
      refine lv_iload (pc := 108) hx hb dX10_seen_108 (lv_at hl 3 rfl) ?_
      refine lv_iconst (pc := 110) (v := (1 : Int32)) hx hb dX10_seen_110 (by decide) ?_
      refine lv_iload (pc := 111) hx hb dX10_seen_111 (lv_at hl 4 rfl) ?_
      refine lv_ishl (pc := 113) hx hb dX10_seen_113 ?_
      refine lv_ior (pc := 114) hx hb dX10_seen_114 ?_
      refine lv_istore (pc := 115) (lv' := [(5, .int (x5 ||| ((1 : Int32) <<< (x6 &&& 31)))), (0, .ref (pB P + x0)), (3, .int x3), (4, .int x4), (6, .int x6)]) hx hb dX10_seen_115 hl (by decide) rfl (fun ls hl => ?_)
      refine lv_iinc (pc := 117) (v := (x6 + (1 : Int32))) (lv' := [(6, .int (x6 + (1 : Int32))), (5, .int (x5 ||| ((1 : Int32) <<< (x6 &&& 31)))), (0, .ref (pB P + x0)), (3, .int x3), (4, .int x4)]) hx hb dX10_seen_117 hl (k := 4) rfl rfl (by decide) rfl (fun ls hl => ?_)
      refine lv_goto (pc := 120) (tgt := 64) hx hb dX10_seen_120 (by decide) ?_
      exact hK64 _ _ _ _ _ _ h H locs ls hM (lv_sub hl [2, 3, 4, 1, 0] rfl)
set_option maxHeartbeats 4000000 in
set_option maxRecDepth 100000 in
theorem wLX10_seen_64 {p : Program} {l : Launch} {e : Env} {s : State} {m : MethodId} {args : Array Value} {below : List Frame} {meth : Method} {c : Code} {P : PT} {N : Nat}  {r9 : Int32} {M9 : Mm} (hX : Cy p s m args c meth cX10_seen 7 RX10 "seen" (some .int) P)   : ∀ (n : Nat) (M : Mm) (x0 : Nat) (x3 : Int32) (x4 : Int32) (x5 : Int32) (x6 : Int32) , LX10_seen_64 N n M x0 x3 x4 x5 x6 = some (r9, M9) → Wq p l e s m args below meth c 5 0 (some (.int r9)) M9 7 P 0 64 [(0, .ref (pB P + x0)), (3, .int x3), (4, .int x4), (5, .int x5), (6, .int x6)] [] M := by
  intro n
  induction n with
  | zero => intro M x0 x3 x4 x5 x6 h; cases h
  | succ n ih => intro M x0 x3 x4 x5 x6 h; exact wBX10_seen_64 hX ih M x0 x3 x4 x5 x6 h
set_option maxHeartbeats 4000000 in
set_option maxRecDepth 100000 in
theorem wjX10_seen_22 {p : Program} {l : Launch} {e : Env} {s : State} {m : MethodId} {args : Array Value} {below : List Frame} {meth : Method} {c : Code} {P : PT} {N : Nat}  {r9 : Int32} {M9 : Mm} (hX : Cy p s m args c meth cX10_seen 7 RX10 "seen" (some .int) P)   (M : Mm) (x0 : Nat)  (h : jX10_seen_22 N M x0 = some (r9, M9)) : Wq p l e s m args below meth c 5 0 (some (.int r9)) M9 7 P 0 22 [(0, .ref (pB P + x0))] [] M := by
  unfold jX10_seen_22 at h
  have hX0 := hX
  obtain ⟨X, hr, hlk, hnm⟩ := hX0
  have hx := X.1.1
  have hb := X.1.2.1
  intro H locs ls hM hl
  refine lv_aload_n (pc := 22) hx hb dX10_seen_22 rfl (lv_at hl 0 rfl) ?_
  refine lv_iconst (pc := 23) (v := (1 : Int32)) hx hb dX10_seen_23 (by decide) ?_
  obtain ⟨v2, M3, e1, h⟩ := ob2 h
  obtain ⟨fs4, hb5⟩ := (rX10_error e1)
  refine bz_callV1 (pc := 24) (As := [.int (1 : Int32)]) (rest := []) X hM hl.1 k_RX10_78 (ctX10_error l e1) rfl hb5 rfl rfl ⟨(Nat.le_of_ble_eq_true rfl), (Nat.le_of_ble_eq_true rfl)⟩ (Nat.le_of_ble_eq_true rfl) ⟨(Nat.le_of_ble_eq_true rfl), (Nat.le_of_ble_eq_true rfl)⟩ dX10_seen_24 (fun H locs hM => ?_)
  obtain ⟨rfl, rfl⟩ := so2 h
  exact bz_iret (pc := 27) X hM hr hlk dX10_seen_27 (Nat.le_of_ble_eq_true rfl) (Nat.le_of_ble_eq_true rfl)
set_option maxHeartbeats 4000000 in
set_option maxRecDepth 100000 in
theorem wX10_seen {p : Program} {l : Launch} {e : Env} {s : State} {m : MethodId} {args : Array Value} {below : List Frame} {meth : Method} {c : Code} {P : PT} {N : Nat}  {r9 : Int32} {M9 : Mm} (hX : Cy p s m args c meth cX10_seen 7 RX10 "seen" (some .int) P)  (M : Mm) (a0 : Nat) (a1 : Int32) (a2 : Int32) (a3 : Int32) (h : fX10_seen N M a0 a1 a2 a3 = some (r9, M9)) : Wq p l e s m args below meth c 5 0 (some (.int r9)) M9 7 P 0 0 [(0, .ref (pB P + a0)), (1, .int a1), (2, .int a2), (3, .int a3)] [] M := by
  unfold fX10_seen at h
  obtain ⟨_, _, h⟩ := ob h
  have hX0 := hX
  obtain ⟨X, hr, hlk, hnm⟩ := hX0
  have hx := X.1.1
  have hb := X.1.2.1
  intro H locs ls hM hl
  refine lv_aload_n (pc := 0) hx hb dX10_seen_0 rfl (lv_at hl 0 rfl) ?_
  refine lv_iload_n (pc := 1) hx hb dX10_seen_1 rfl (lv_at hl 1 rfl) ?_
  obtain ⟨v2, e1, h⟩ := ob h
  obtain ⟨fs3, hb4⟩ := (rX10_isBar e1)
  refine bz_callV1 (pc := 2) (As := [.int a1]) (rest := []) X hM hl.1 k_RX10_100 (ctX10_isBar l e1) rfl hb4 rfl rfl ⟨(Nat.le_of_ble_eq_true rfl), (Nat.le_of_ble_eq_true rfl)⟩ (Nat.le_of_ble_eq_true rfl) ⟨(Nat.le_of_ble_eq_true rfl), (Nat.le_of_ble_eq_true rfl)⟩ dX10_seen_2 (fun H locs hM => ?_)
  refine lv_if_eq (pc := 5) (tgt := 22) hx hb dX10_seen_5 (by decide) (fun hc => ?_) (fun hc => ?_)
  · have h := if_t hc h
    exact wjX10_seen_22 hX _ _ h H locs ls hM (lv_sub hl [0] rfl)
  · have h := if_f hc h
    refine lv_iload_n (pc := 8) hx hb dX10_seen_8 rfl (lv_at hl 2 rfl) ?_
    obtain ⟨v6, e5, h⟩ := ob h
    refine bz_callS1 (pc := 9) (As := [.int a2]) (rest := []) X hM hl.1 k_RX10_145 (ctX10_isLine l e5) rfl rfl ⟨(Nat.le_of_ble_eq_true rfl), (Nat.le_of_ble_eq_true rfl)⟩ (Nat.le_of_ble_eq_true rfl) ⟨(Nat.le_of_ble_eq_true rfl), (Nat.le_of_ble_eq_true rfl)⟩ dX10_seen_9 (fun H locs hM => ?_)
    refine lv_if_eq (pc := 12) (tgt := 22) hx hb dX10_seen_12 (by decide) (fun hc => ?_) (fun hc => ?_)
    · have h := if_t hc h
      exact wjX10_seen_22 hX _ _ h H locs ls hM (lv_sub hl [0] rfl)
    · have h := if_f hc h
      refine lv_iload_n (pc := 15) hx hb dX10_seen_15 rfl (lv_at hl 3 rfl) ?_
      obtain ⟨v8, e7, h⟩ := ob h
      refine bz_callS1 (pc := 16) (As := [.int a3]) (rest := []) X hM hl.1 k_RX10_214 (ctX10_isWindow l e7) rfl rfl ⟨(Nat.le_of_ble_eq_true rfl), (Nat.le_of_ble_eq_true rfl)⟩ (Nat.le_of_ble_eq_true rfl) ⟨(Nat.le_of_ble_eq_true rfl), (Nat.le_of_ble_eq_true rfl)⟩ dX10_seen_16 (fun H locs hM => ?_)
      refine lv_if_ne (pc := 19) (tgt := 28) hx hb dX10_seen_19 (by decide) (fun hc => ?_) (fun hc => ?_)
      · have h := if_f hc h
        refine lv_aload_n (pc := 28) hx hb dX10_seen_28 rfl (lv_at hl 0 rfl) ?_
        obtain ⟨q9, e10, h⟩ := ob h
        refine bz_getQ (pc := 29) X hM fl_RX10_49 e10 dX10_seen_29 ?_
        refine lv_aload_n (pc := 32) hx hb dX10_seen_32 rfl (lv_at hl 0 rfl) ?_
        obtain ⟨q11, e12, h⟩ := ob h
        refine bz_getQ (pc := 33) X hM fl_RX10_10 e12 dX10_seen_33 ?_
        refine lv_iload_n (pc := 36) hx hb dX10_seen_36 rfl (lv_at hl 1 rfl) ?_
        obtain ⟨M14, e13, h⟩ := ob h
        obtain ⟨fs15, hb16⟩ := (rX7_hear e13)
        refine bz_callV0 (pc := 37) (As := [.ref (pB P + q11), .int a1]) (rest := []) X hM hl.1 k_RX10_148 (ctX7_hear l e13) rfl hb16 rfl rfl ⟨(Nat.le_of_ble_eq_true rfl), (Nat.le_of_ble_eq_true rfl)⟩ (Nat.le_of_ble_eq_true rfl) ⟨(Nat.le_of_ble_eq_true rfl), (Nat.le_of_ble_eq_true rfl)⟩ dX10_seen_37 (fun H locs hM => ?_)
        refine lv_aload_n (pc := 40) hx hb dX10_seen_40 rfl (lv_at hl 0 rfl) ?_
        obtain ⟨q17, e18, h⟩ := ob h
        refine bz_getQ (pc := 41) X hM fl_RX10_49 e18 dX10_seen_41 ?_
        refine lv_iload_n (pc := 44) hx hb dX10_seen_44 rfl (lv_at hl 2 rfl) ?_
        obtain ⟨M20, e19, h⟩ := ob h
        obtain ⟨fs21, hb22⟩ := (rX7_keepAbove e19)
        refine bz_callV0 (pc := 45) (As := [.int a2]) (rest := []) X hM hl.1 k_RX10_293 (ctX7_keepAbove l e19) rfl hb22 rfl rfl ⟨(Nat.le_of_ble_eq_true rfl), (Nat.le_of_ble_eq_true rfl)⟩ (Nat.le_of_ble_eq_true rfl) ⟨(Nat.le_of_ble_eq_true rfl), (Nat.le_of_ble_eq_true rfl)⟩ dX10_seen_45 (fun H locs hM => ?_)
        refine lv_aload_n (pc := 48) hx hb dX10_seen_48 rfl (lv_at hl 0 rfl) ?_
        obtain ⟨q23, e24, h⟩ := ob h
        refine bz_getQ (pc := 49) X hM fl_RX10_10 e24 dX10_seen_49 ?_
        refine lv_iload_n (pc := 52) hx hb dX10_seen_52 rfl (lv_at hl 1 rfl) ?_
        obtain ⟨v26, e25, h⟩ := ob h
        obtain ⟨fs27, hb28⟩ := (rX6_clockOf e25)
        refine bz_callV1 (pc := 53) (As := [.int a1]) (rest := []) X hM hl.1 k_RX10_253 (ctX6_clockOf l e25) rfl hb28 rfl rfl ⟨(Nat.le_of_ble_eq_true rfl), (Nat.le_of_ble_eq_true rfl)⟩ (Nat.le_of_ble_eq_true rfl) ⟨(Nat.le_of_ble_eq_true rfl), (Nat.le_of_ble_eq_true rfl)⟩ dX10_seen_53 (fun H locs hM => ?_)
        refine lv_istore (pc := 56) (lv' := [(4, .int v26), (0, .ref (pB P + a0)), (1, .int a1), (2, .int a2), (3, .int a3)]) hx hb dX10_seen_56 hl (by decide) rfl (fun ls hl => ?_)
        refine lv_iconst (pc := 58) (v := (0 : Int32)) hx hb dX10_seen_58 (by decide) ?_
        refine lv_istore (pc := 59) (lv' := [(5, .int (0 : Int32)), (4, .int v26), (0, .ref (pB P + a0)), (1, .int a1), (2, .int a2), (3, .int a3)]) hx hb dX10_seen_59 hl (by decide) rfl (fun ls hl => ?_)
        refine lv_iconst (pc := 61) (v := (0 : Int32)) hx hb dX10_seen_61 (by decide) ?_
        refine lv_istore (pc := 62) (lv' := [(6, .int (0 : Int32)), (5, .int (0 : Int32)), (4, .int v26), (0, .ref (pB P + a0)), (1, .int a1), (2, .int a2), (3, .int a3)]) hx hb dX10_seen_62 hl (by decide) rfl (fun ls hl => ?_)
        exact wLX10_seen_64 hX _ _ _ _ _ _ _ h H locs ls hM (lv_sub hl [3, 6, 2, 1, 0] rfl)
      · have h := if_t hc h
        exact wjX10_seen_22 hX _ _ h H locs ls hM (lv_sub hl [0] rfl)
theorem rX10_seen {N : Nat} {M : Mm} {a0 : Nat} {a1 : Int32} {a2 : Int32} {a3 : Int32} {r9 : Int32 × Mm} (h : fX10_seen N M a0 a1 a2 a3 = some r9) : ∃ fs, M[a0]? = some (.inr (10, fs)) := by
  unfold fX10_seen at h
  obtain ⟨_, e1, _⟩ := ob h
  exact gC_spec e1
theorem ctX10_seen (l : Launch) {P : PT} {N : Nat} {M : Mm} {a0 : Nat} {a1 : Int32} {a2 : Int32} {a3 : Int32} {r9 : Int32} {M9 : Mm} (h : fX10_seen N M a0 a1 a2 a3 = some (r9, M9)) : Ct l yX10_seen cX10_seen 7 (some .int) 5 0 P [.ref (pB P + a0), .int a1, .int a2, .int a3] M (some (.int r9)) M9 :=
  Ct.mk (by decide +kernel) (Nat.le_of_ble_eq_true rfl) (fun p e s m args below meth c hX => wX10_seen hX M a0 a1 a2 a3 h)
set_option maxHeartbeats 4000000 in
set_option maxRecDepth 100000 in
theorem wX11_isNear {p : Program} {l : Launch} {e : Env} {s : State} {m : MethodId} {args : Array Value} {below : List Frame} {meth : Method} {c : Code} {P : PT}  {r9 : Int32} (hX : Cy p s m args c meth cX11_isNear 4 RX11 "isNear" (some .boolean) P)  (M : Mm) (a0 : Nat) (a1 : Int32) (a2 : Int32) (a3 : Int32) (h : fX11_isNear M a0 a1 a2 a3 = some r9) : Wq p l e s m args below meth c 1 0 (some (.int r9)) M 4 P 0 0 [(0, .ref (pB P + a0)), (1, .int a1), (2, .int a2), (3, .int a3)] [] M := by
  unfold fX11_isNear at h
  obtain ⟨_, _, h⟩ := ob h
  have hX0 := hX
  obtain ⟨X, hr, hlk, hnm⟩ := hX0
  have hx := X.1.1
  have hb := X.1.2.1
  intro H locs ls hM hl
  refine lv_aload_n (pc := 0) hx hb dX11_isNear_0 rfl (lv_at hl 0 rfl) ?_
  refine lv_iload_n (pc := 1) hx hb dX11_isNear_1 rfl (lv_at hl 1 rfl) ?_
  refine lv_iconst (pc := 2) (v := (1 : Int32)) hx hb dX11_isNear_2 (by decide) ?_
  obtain ⟨v2, e1, h⟩ := ob h
  obtain ⟨fs3, hb4⟩ := (rX11_ring e1)
  refine bz_callV1 (pc := 3) (As := [.int a1, .int (1 : Int32)]) (rest := []) X hM hl.1 k_RX11_87 (ctX11_ring l e1) rfl hb4 rfl rfl ⟨(Nat.le_of_ble_eq_true rfl), (Nat.le_of_ble_eq_true rfl)⟩ (Nat.le_of_ble_eq_true rfl) ⟨(Nat.le_of_ble_eq_true rfl), (Nat.le_of_ble_eq_true rfl)⟩ dX11_isNear_3 (fun H locs hM => ?_)
  refine lv_aload_n (pc := 6) hx hb dX11_isNear_6 rfl (lv_at hl 0 rfl) ?_
  obtain ⟨q5, e6, h⟩ := ob h
  refine bz_getQ (pc := 7) X hM fl_RX11_9 e6 dX11_isNear_7 ?_
  refine lv_sipush (pc := 10) (v := (372 : Int32)) hx hb dX11_isNear_10 (by decide) ?_
  refine lv_iload_n (pc := 13) hx hb dX11_isNear_13 rfl (lv_at hl 2 rfl) ?_
  refine lv_iadd (pc := 14) hx hb dX11_isNear_14 ?_
  obtain ⟨v7, e8, h⟩ := ob h
  refine bz_iald (pc := 15) X hM e8 dX11_isNear_15 ?_
  refine lv_isub (pc := 16) hx hb dX11_isNear_16 ?_
  obtain ⟨v10, e9, h⟩ := ob h
  refine bz_callS1 (pc := 17) (As := [.int (v2 - v7)]) (rest := []) X hM hl.1 k_RX11_231 (ctX11_size l e9) rfl rfl ⟨(Nat.le_of_ble_eq_true rfl), (Nat.le_of_ble_eq_true rfl)⟩ (Nat.le_of_ble_eq_true rfl) ⟨(Nat.le_of_ble_eq_true rfl), (Nat.le_of_ble_eq_true rfl)⟩ dX11_isNear_17 (fun H locs hM => ?_)
  refine lv_iload_n (pc := 20) hx hb dX11_isNear_20 rfl (lv_at hl 3 rfl) ?_
  refine lv_icmp_gt (pc := 21) (tgt := 28) hx hb dX11_isNear_21 (by decide) (fun hc => ?_) (fun hc => ?_)
  · have h := if_t hc h
    refine lv_iconst (pc := 28) (v := (0 : Int32)) hx hb dX11_isNear_28 (by decide) ?_
    obtain rfl := so1 h
    exact bz_zret (pc := 29) X hM hr hlk (by decide) dX11_isNear_29 (Nat.le_of_ble_eq_true rfl) (Nat.le_of_ble_eq_true rfl)
  · have h := if_f hc h
    refine lv_iconst (pc := 24) (v := (1 : Int32)) hx hb dX11_isNear_24 (by decide) ?_
    refine lv_goto (pc := 25) (tgt := 29) hx hb dX11_isNear_25 (by decide) ?_
    obtain rfl := so1 h
    exact bz_zret (pc := 29) X hM hr hlk (by decide) dX11_isNear_29 (Nat.le_of_ble_eq_true rfl) (Nat.le_of_ble_eq_true rfl)
theorem rX11_isNear {M : Mm} {a0 : Nat} {a1 : Int32} {a2 : Int32} {a3 : Int32} {r9 : Int32} (h : fX11_isNear M a0 a1 a2 a3 = some r9) : ∃ fs, M[a0]? = some (.inr (11, fs)) := by
  unfold fX11_isNear at h
  obtain ⟨_, e1, _⟩ := ob h
  exact gC_spec e1
theorem ctX11_isNear (l : Launch) {P : PT} {M : Mm} {a0 : Nat} {a1 : Int32} {a2 : Int32} {a3 : Int32} {r9 : Int32} (h : fX11_isNear M a0 a1 a2 a3 = some r9) : Ct l yX11_isNear cX11_isNear 4 (some .boolean) 1 0 P [.ref (pB P + a0), .int a1, .int a2, .int a3] M (some (.int r9)) M :=
  Ct.mk (by decide +kernel) (Nat.le_of_ble_eq_true rfl) (fun p e s m args below meth c hX => wX11_isNear hX M a0 a1 a2 a3 h)
set_option maxHeartbeats 4000000 in
set_option maxRecDepth 100000 in
theorem wBX11_seen_52 {p : Program} {l : Launch} {e : Env} {s : State} {m : MethodId} {args : Array Value} {below : List Frame} {meth : Method} {c : Code} {P : PT} {N : Nat} {K38 : Mm → Nat → Int32 → Int32 → Int32 → Int32 → Int32 → Option (Int32 × Mm)} {K52 : Mm → Nat → Int32 → Int32 → Int32 → Int32 → Int32 → Int32 → Option (Int32 × Mm)}  {r9 : Int32} {M9 : Mm} (hX : Cy p s m args c meth cX11_seen 7 RX11 "seen" (some .int) P)  (hK38 : ∀ (M : Mm) (x0 : Nat) (x1 : Int32) (x2 : Int32) (x3 : Int32) (x4 : Int32) (x5 : Int32), K38 M x0 x1 x2 x3 x4 x5 = some (r9, M9) → Wq p l e s m args below meth c 4 0 (some (.int r9)) M9 7 P 0 38 [(0, .ref (pB P + x0)), (1, .int x1), (2, .int x2), (3, .int x3), (4, .int x4), (5, .int x5)] [] M) (hK52 : ∀ (M : Mm) (x0 : Nat) (x1 : Int32) (x2 : Int32) (x3 : Int32) (x4 : Int32) (x5 : Int32) (x6 : Int32), K52 M x0 x1 x2 x3 x4 x5 x6 = some (r9, M9) → Wq p l e s m args below meth c 4 0 (some (.int r9)) M9 7 P 0 52 [(0, .ref (pB P + x0)), (1, .int x1), (2, .int x2), (3, .int x3), (4, .int x4), (5, .int x5), (6, .int x6)] [] M) (M : Mm) (x0 : Nat) (x1 : Int32) (x2 : Int32) (x3 : Int32) (x4 : Int32) (x5 : Int32) (x6 : Int32)  (h : BX11_seen_52 N K38 K52 M x0 x1 x2 x3 x4 x5 x6 = some (r9, M9)) : Wq p l e s m args below meth c 4 0 (some (.int r9)) M9 7 P 0 52 [(0, .ref (pB P + x0)), (1, .int x1), (2, .int x2), (3, .int x3), (4, .int x4), (5, .int x5), (6, .int x6)] [] M := by
  unfold BX11_seen_52 at h
  have hX0 := hX
  obtain ⟨X, hr, hlk, hnm⟩ := hX0
  have hx := X.1.1
  have hb := X.1.2.1
  intro H locs ls hM hl
  refine lv_iload (pc := 52) hx hb dX11_seen_52 (lv_at hl 6 rfl) ?_
  refine lv_aload_n (pc := 54) hx hb dX11_seen_54 rfl (lv_at hl 0 rfl) ?_
  obtain ⟨q1, e2, h⟩ := ob h
  refine bz_getQ (pc := 55) X hM fl_RX11_9 e2 dX11_seen_55 ?_
  refine lv_iconst (pc := 58) (v := (1 : Int32)) hx hb dX11_seen_58 (by decide) ?_
  obtain ⟨v3, e4, h⟩ := ob h
  refine bz_iald (pc := 59) X hM e4 dX11_seen_59 ?_
  refine lv_icmp_ge (pc := 60) (tgt := 105) hx hb dX11_seen_60 (by decide) (fun hc => ?_) (fun hc => ?_)
  · have h := if_t hc h
    refine lv_iinc (pc := 105) (v := (x5 + (1 : Int32))) (lv' := [(5, .int (x5 + (1 : Int32))), (0, .ref (pB P + x0)), (1, .int x1), (2, .int x2), (3, .int x3), (4, .int x4), (6, .int x6)]) hx hb dX11_seen_105 hl (k := 5) rfl rfl (by decide) rfl (fun ls hl => ?_)
    refine lv_goto (pc := 108) (tgt := 38) hx hb dX11_seen_108 (by decide) ?_
    exact hK38 _ _ _ _ _ _ _ h H locs ls hM (lv_sub hl [1, 2, 3, 4, 5, 0] rfl)
  · have h := if_f hc h
    refine lv_iload (pc := 63) hx hb dX11_seen_63 (lv_at hl 4 rfl) ?_
    refine lv_aload_n (pc := 65) hx hb dX11_seen_65 rfl (lv_at hl 0 rfl) ?_
    refine lv_iload (pc := 66) hx hb dX11_seen_66 (lv_at hl 6 rfl) ?_
    refine lv_iload_n (pc := 68) hx hb dX11_seen_68 rfl (lv_at hl 1 rfl) ?_
    refine lv_iload_n (pc := 69) hx hb dX11_seen_69 rfl (lv_at hl 2 rfl) ?_
    obtain ⟨v6, e5, h⟩ := ob h
    obtain ⟨fs7, hb8⟩ := (rX11_isCounted e5)
    refine bz_callV1 (pc := 70) (As := [.int x6, .int x1, .int x2]) (rest := [.int x4]) X hM hl.1 k_RX11_123 (ctX11_isCounted l e5) rfl hb8 rfl rfl ⟨(Nat.le_of_ble_eq_true rfl), (Nat.le_of_ble_eq_true rfl)⟩ (Nat.le_of_ble_eq_true rfl) ⟨(Nat.le_of_ble_eq_true rfl), (Nat.le_of_ble_eq_true rfl)⟩ dX11_seen_70 (fun H locs hM => ?_)
    refine lv_if_eq (pc := 73) (tgt := 95) hx hb dX11_seen_73 (by decide) (fun hc => ?_) (fun hc => ?_)
    · have h := if_t hc h
      refine lv_iconst (pc := 95) (v := (0 : Int32)) hx hb dX11_seen_95 (by decide) ?_
      refine lv_ior (pc := 96) hx hb dX11_seen_96 ?_
      refine lv_istore (pc := 97) (lv' := [(4, .int (x4 ||| (0 : Int32))), (0, .ref (pB P + x0)), (1, .int x1), (2, .int x2), (3, .int x3), (5, .int x5), (6, .int x6)]) hx hb dX11_seen_97 hl (by decide) rfl (fun ls hl => ?_)
      refine lv_iinc (pc := 99) (v := (x6 + (1 : Int32))) (lv' := [(6, .int (x6 + (1 : Int32))), (4, .int (x4 ||| (0 : Int32))), (0, .ref (pB P + x0)), (1, .int x1), (2, .int x2), (3, .int x3), (5, .int x5)]) hx hb dX11_seen_99 hl (k := 6) rfl rfl (by decide) rfl (fun ls hl => ?_)
      refine lv_goto (pc := 102) (tgt := 52) hx hb dX11_seen_102 (by decide) ?_
      exact hK52 _ _ _ _ _ _ _ _ h H locs ls hM (lv_sub hl [2, 3, 4, 5, 1, 6, 0] rfl)
    · have h := if_f hc h
      refine lv_aload_n (pc := 76) hx hb dX11_seen_76 rfl (lv_at hl 0 rfl) ?_
      refine lv_iload (pc := 77) hx hb dX11_seen_77 (lv_at hl 6 rfl) ?_
      refine lv_iload (pc := 79) hx hb dX11_seen_79 (lv_at hl 5 rfl) ?_
      refine lv_iload_n (pc := 81) hx hb dX11_seen_81 rfl (lv_at hl 3 rfl) ?_
      obtain ⟨v10, e9, h⟩ := ob h
      obtain ⟨fs11, hb12⟩ := (rX11_isNear e9)
      refine bz_callV1 (pc := 82) (As := [.int x6, .int x5, .int x3]) (rest := [.int x4]) X hM hl.1 k_RX11_273 (ctX11_isNear l e9) rfl hb12 rfl rfl ⟨(Nat.le_of_ble_eq_true rfl), (Nat.le_of_ble_eq_true rfl)⟩ (Nat.le_of_ble_eq_true rfl) ⟨(Nat.le_of_ble_eq_true rfl), (Nat.le_of_ble_eq_true rfl)⟩ dX11_seen_82 (fun H locs hM => ?_)
      refine lv_if_eq (pc := 85) (tgt := 95) hx hb dX11_seen_85 (by decide) (fun hc => ?_) (fun hc => ?_)
      · have h := if_t hc h
        refine lv_iconst (pc := 95) (v := (0 : Int32)) hx hb dX11_seen_95 (by decide) ?_
        refine lv_ior (pc := 96) hx hb dX11_seen_96 ?_
        refine lv_istore (pc := 97) (lv' := [(4, .int (x4 ||| (0 : Int32))), (0, .ref (pB P + x0)), (1, .int x1), (2, .int x2), (3, .int x3), (5, .int x5), (6, .int x6)]) hx hb dX11_seen_97 hl (by decide) rfl (fun ls hl => ?_)
        refine lv_iinc (pc := 99) (v := (x6 + (1 : Int32))) (lv' := [(6, .int (x6 + (1 : Int32))), (4, .int (x4 ||| (0 : Int32))), (0, .ref (pB P + x0)), (1, .int x1), (2, .int x2), (3, .int x3), (5, .int x5)]) hx hb dX11_seen_99 hl (k := 6) rfl rfl (by decide) rfl (fun ls hl => ?_)
        refine lv_goto (pc := 102) (tgt := 52) hx hb dX11_seen_102 (by decide) ?_
        exact hK52 _ _ _ _ _ _ _ _ h H locs ls hM (lv_sub hl [2, 3, 4, 5, 1, 6, 0] rfl)
      · have h := if_f hc h
        refine lv_iconst (pc := 88) (v := (1 : Int32)) hx hb dX11_seen_88 (by decide) ?_
        refine lv_iload (pc := 89) hx hb dX11_seen_89 (lv_at hl 5 rfl) ?_
        refine lv_ishl (pc := 91) hx hb dX11_seen_91 ?_
        refine lv_goto (pc := 92) (tgt := 96) hx hb dX11_seen_92 (by decide) ?_
        refine lv_ior (pc := 96) hx hb dX11_seen_96 ?_
        refine lv_istore (pc := 97) (lv' := [(4, .int (x4 ||| ((1 : Int32) <<< (x5 &&& 31)))), (0, .ref (pB P + x0)), (1, .int x1), (2, .int x2), (3, .int x3), (5, .int x5), (6, .int x6)]) hx hb dX11_seen_97 hl (by decide) rfl (fun ls hl => ?_)
        refine lv_iinc (pc := 99) (v := (x6 + (1 : Int32))) (lv' := [(6, .int (x6 + (1 : Int32))), (4, .int (x4 ||| ((1 : Int32) <<< (x5 &&& 31)))), (0, .ref (pB P + x0)), (1, .int x1), (2, .int x2), (3, .int x3), (5, .int x5)]) hx hb dX11_seen_99 hl (k := 6) rfl rfl (by decide) rfl (fun ls hl => ?_)
        refine lv_goto (pc := 102) (tgt := 52) hx hb dX11_seen_102 (by decide) ?_
        exact hK52 _ _ _ _ _ _ _ _ h H locs ls hM (lv_sub hl [2, 3, 4, 5, 1, 6, 0] rfl)
set_option maxHeartbeats 4000000 in
set_option maxRecDepth 100000 in
theorem wLX11_seen_52 {p : Program} {l : Launch} {e : Env} {s : State} {m : MethodId} {args : Array Value} {below : List Frame} {meth : Method} {c : Code} {P : PT} {N : Nat} {K38 : Mm → Nat → Int32 → Int32 → Int32 → Int32 → Int32 → Option (Int32 × Mm)}  {r9 : Int32} {M9 : Mm} (hX : Cy p s m args c meth cX11_seen 7 RX11 "seen" (some .int) P)  (hK38 : ∀ (M : Mm) (x0 : Nat) (x1 : Int32) (x2 : Int32) (x3 : Int32) (x4 : Int32) (x5 : Int32), K38 M x0 x1 x2 x3 x4 x5 = some (r9, M9) → Wq p l e s m args below meth c 4 0 (some (.int r9)) M9 7 P 0 38 [(0, .ref (pB P + x0)), (1, .int x1), (2, .int x2), (3, .int x3), (4, .int x4), (5, .int x5)] [] M) : ∀ (n : Nat) (M : Mm) (x0 : Nat) (x1 : Int32) (x2 : Int32) (x3 : Int32) (x4 : Int32) (x5 : Int32) (x6 : Int32) , LX11_seen_52 N K38 n M x0 x1 x2 x3 x4 x5 x6 = some (r9, M9) → Wq p l e s m args below meth c 4 0 (some (.int r9)) M9 7 P 0 52 [(0, .ref (pB P + x0)), (1, .int x1), (2, .int x2), (3, .int x3), (4, .int x4), (5, .int x5), (6, .int x6)] [] M := by
  intro n
  induction n with
  | zero => intro M x0 x1 x2 x3 x4 x5 x6 h; cases h
  | succ n ih => intro M x0 x1 x2 x3 x4 x5 x6 h; exact wBX11_seen_52 hX hK38 ih M x0 x1 x2 x3 x4 x5 x6 h
set_option maxHeartbeats 4000000 in
set_option maxRecDepth 100000 in
theorem wBX11_seen_38 {p : Program} {l : Launch} {e : Env} {s : State} {m : MethodId} {args : Array Value} {below : List Frame} {meth : Method} {c : Code} {P : PT} {N : Nat} {K38 : Mm → Nat → Int32 → Int32 → Int32 → Int32 → Int32 → Option (Int32 × Mm)}  {r9 : Int32} {M9 : Mm} (hX : Cy p s m args c meth cX11_seen 7 RX11 "seen" (some .int) P)  (hK38 : ∀ (M : Mm) (x0 : Nat) (x1 : Int32) (x2 : Int32) (x3 : Int32) (x4 : Int32) (x5 : Int32), K38 M x0 x1 x2 x3 x4 x5 = some (r9, M9) → Wq p l e s m args below meth c 4 0 (some (.int r9)) M9 7 P 0 38 [(0, .ref (pB P + x0)), (1, .int x1), (2, .int x2), (3, .int x3), (4, .int x4), (5, .int x5)] [] M) (M : Mm) (x0 : Nat) (x1 : Int32) (x2 : Int32) (x3 : Int32) (x4 : Int32) (x5 : Int32)  (h : BX11_seen_38 N K38 M x0 x1 x2 x3 x4 x5 = some (r9, M9)) : Wq p l e s m args below meth c 4 0 (some (.int r9)) M9 7 P 0 38 [(0, .ref (pB P + x0)), (1, .int x1), (2, .int x2), (3, .int x3), (4, .int x4), (5, .int x5)] [] M := by
  unfold BX11_seen_38 at h
  have hX0 := hX
  obtain ⟨X, hr, hlk, hnm⟩ := hX0
  have hx := X.1.1
  have hb := X.1.2.1
  intro H locs ls hM hl
  refine lv_iload (pc := 38) hx hb dX11_seen_38 (lv_at hl 5 rfl) ?_
  refine lv_aload_n (pc := 40) hx hb dX11_seen_40 rfl (lv_at hl 0 rfl) ?_
  obtain ⟨q1, e2, h⟩ := ob h
  refine bz_getQ (pc := 41) X hM fl_RX11_9 e2 dX11_seen_41 ?_
  refine lv_iconst (pc := 44) (v := (4 : Int32)) hx hb dX11_seen_44 (by decide) ?_
  obtain ⟨v3, e4, h⟩ := ob h
  refine bz_iald (pc := 45) X hM e4 dX11_seen_45 ?_
  refine lv_icmp_ge (pc := 46) (tgt := 111) hx hb dX11_seen_46 (by decide) (fun hc => ?_) (fun hc => ?_)
  · have h := if_t hc h
    refine lv_iload (pc := 111) hx hb dX11_seen_111 (lv_at hl 4 rfl) ?_
    obtain ⟨rfl, rfl⟩ := so2 h
    exact bz_iret (pc := 113) X hM hr hlk dX11_seen_113 (Nat.le_of_ble_eq_true rfl) (Nat.le_of_ble_eq_true rfl)
  · have h := if_f hc h
    refine lv_iconst (pc := 49) (v := (0 : Int32)) hx hb dX11_seen_49 (by decide) ?_
    refine lv_istore (pc := 50) (lv' := [(6, .int (0 : Int32)), (0, .ref (pB P + x0)), (1, .int x1), (2, .int x2), (3, .int x3), (4, .int x4), (5, .int x5)]) hx hb dX11_seen_50 hl (by decide) rfl (fun ls hl => ?_)
    exact wLX11_seen_52 hX hK38 _ _ _ _ _ _ _ _ _ h H locs ls hM (lv_sub hl [1, 2, 3, 4, 5, 6, 0] rfl)
set_option maxHeartbeats 4000000 in
set_option maxRecDepth 100000 in
theorem wLX11_seen_38 {p : Program} {l : Launch} {e : Env} {s : State} {m : MethodId} {args : Array Value} {below : List Frame} {meth : Method} {c : Code} {P : PT} {N : Nat}  {r9 : Int32} {M9 : Mm} (hX : Cy p s m args c meth cX11_seen 7 RX11 "seen" (some .int) P)   : ∀ (n : Nat) (M : Mm) (x0 : Nat) (x1 : Int32) (x2 : Int32) (x3 : Int32) (x4 : Int32) (x5 : Int32) , LX11_seen_38 N n M x0 x1 x2 x3 x4 x5 = some (r9, M9) → Wq p l e s m args below meth c 4 0 (some (.int r9)) M9 7 P 0 38 [(0, .ref (pB P + x0)), (1, .int x1), (2, .int x2), (3, .int x3), (4, .int x4), (5, .int x5)] [] M := by
  intro n
  induction n with
  | zero => intro M x0 x1 x2 x3 x4 x5 h; cases h
  | succ n ih => intro M x0 x1 x2 x3 x4 x5 h; exact wBX11_seen_38 hX ih M x0 x1 x2 x3 x4 x5 h
set_option maxHeartbeats 4000000 in
set_option maxRecDepth 100000 in
theorem wjX11_seen_22 {p : Program} {l : Launch} {e : Env} {s : State} {m : MethodId} {args : Array Value} {below : List Frame} {meth : Method} {c : Code} {P : PT} {N : Nat}  {r9 : Int32} {M9 : Mm} (hX : Cy p s m args c meth cX11_seen 7 RX11 "seen" (some .int) P)   (M : Mm) (x0 : Nat)  (h : jX11_seen_22 N M x0 = some (r9, M9)) : Wq p l e s m args below meth c 4 0 (some (.int r9)) M9 7 P 0 22 [(0, .ref (pB P + x0))] [] M := by
  unfold jX11_seen_22 at h
  have hX0 := hX
  obtain ⟨X, hr, hlk, hnm⟩ := hX0
  have hx := X.1.1
  have hb := X.1.2.1
  intro H locs ls hM hl
  refine lv_aload_n (pc := 22) hx hb dX11_seen_22 rfl (lv_at hl 0 rfl) ?_
  refine lv_iconst (pc := 23) (v := (1 : Int32)) hx hb dX11_seen_23 (by decide) ?_
  obtain ⟨v2, M3, e1, h⟩ := ob2 h
  obtain ⟨fs4, hb5⟩ := (rX11_error e1)
  refine bz_callV1 (pc := 24) (As := [.int (1 : Int32)]) (rest := []) X hM hl.1 k_RX11_73 (ctX11_error l e1) rfl hb5 rfl rfl ⟨(Nat.le_of_ble_eq_true rfl), (Nat.le_of_ble_eq_true rfl)⟩ (Nat.le_of_ble_eq_true rfl) ⟨(Nat.le_of_ble_eq_true rfl), (Nat.le_of_ble_eq_true rfl)⟩ dX11_seen_24 (fun H locs hM => ?_)
  obtain ⟨rfl, rfl⟩ := so2 h
  exact bz_iret (pc := 27) X hM hr hlk dX11_seen_27 (Nat.le_of_ble_eq_true rfl) (Nat.le_of_ble_eq_true rfl)
set_option maxHeartbeats 4000000 in
set_option maxRecDepth 100000 in
theorem wX11_seen {p : Program} {l : Launch} {e : Env} {s : State} {m : MethodId} {args : Array Value} {below : List Frame} {meth : Method} {c : Code} {P : PT} {N : Nat}  {r9 : Int32} {M9 : Mm} (hX : Cy p s m args c meth cX11_seen 7 RX11 "seen" (some .int) P)  (M : Mm) (a0 : Nat) (a1 : Int32) (a2 : Int32) (a3 : Int32) (h : fX11_seen N M a0 a1 a2 a3 = some (r9, M9)) : Wq p l e s m args below meth c 4 0 (some (.int r9)) M9 7 P 0 0 [(0, .ref (pB P + a0)), (1, .int a1), (2, .int a2), (3, .int a3)] [] M := by
  unfold fX11_seen at h
  obtain ⟨_, _, h⟩ := ob h
  have hX0 := hX
  obtain ⟨X, hr, hlk, hnm⟩ := hX0
  have hx := X.1.1
  have hb := X.1.2.1
  intro H locs ls hM hl
  refine lv_aload_n (pc := 0) hx hb dX11_seen_0 rfl (lv_at hl 0 rfl) ?_
  refine lv_iload_n (pc := 1) hx hb dX11_seen_1 rfl (lv_at hl 1 rfl) ?_
  obtain ⟨v2, e1, h⟩ := ob h
  obtain ⟨fs3, hb4⟩ := (rX11_isBar e1)
  refine bz_callV1 (pc := 2) (As := [.int a1]) (rest := []) X hM hl.1 k_RX11_65 (ctX11_isBar l e1) rfl hb4 rfl rfl ⟨(Nat.le_of_ble_eq_true rfl), (Nat.le_of_ble_eq_true rfl)⟩ (Nat.le_of_ble_eq_true rfl) ⟨(Nat.le_of_ble_eq_true rfl), (Nat.le_of_ble_eq_true rfl)⟩ dX11_seen_2 (fun H locs hM => ?_)
  refine lv_if_eq (pc := 5) (tgt := 22) hx hb dX11_seen_5 (by decide) (fun hc => ?_) (fun hc => ?_)
  · have h := if_t hc h
    exact wjX11_seen_22 hX _ _ h H locs ls hM (lv_sub hl [0] rfl)
  · have h := if_f hc h
    refine lv_iload_n (pc := 8) hx hb dX11_seen_8 rfl (lv_at hl 2 rfl) ?_
    obtain ⟨v6, e5, h⟩ := ob h
    refine bz_callS1 (pc := 9) (As := [.int a2]) (rest := []) X hM hl.1 k_RX11_117 (ctX11_isLine l e5) rfl rfl ⟨(Nat.le_of_ble_eq_true rfl), (Nat.le_of_ble_eq_true rfl)⟩ (Nat.le_of_ble_eq_true rfl) ⟨(Nat.le_of_ble_eq_true rfl), (Nat.le_of_ble_eq_true rfl)⟩ dX11_seen_9 (fun H locs hM => ?_)
    refine lv_if_eq (pc := 12) (tgt := 22) hx hb dX11_seen_12 (by decide) (fun hc => ?_) (fun hc => ?_)
    · have h := if_t hc h
      exact wjX11_seen_22 hX _ _ h H locs ls hM (lv_sub hl [0] rfl)
    · have h := if_f hc h
      refine lv_iload_n (pc := 15) hx hb dX11_seen_15 rfl (lv_at hl 3 rfl) ?_
      obtain ⟨v8, e7, h⟩ := ob h
      refine bz_callS1 (pc := 16) (As := [.int a3]) (rest := []) X hM hl.1 k_RX11_134 (ctX11_isWindow l e7) rfl rfl ⟨(Nat.le_of_ble_eq_true rfl), (Nat.le_of_ble_eq_true rfl)⟩ (Nat.le_of_ble_eq_true rfl) ⟨(Nat.le_of_ble_eq_true rfl), (Nat.le_of_ble_eq_true rfl)⟩ dX11_seen_16 (fun H locs hM => ?_)
      refine lv_if_ne (pc := 19) (tgt := 28) hx hb dX11_seen_19 (by decide) (fun hc => ?_) (fun hc => ?_)
      · have h := if_f hc h
        refine lv_aload_n (pc := 28) hx hb dX11_seen_28 rfl (lv_at hl 0 rfl) ?_
        obtain ⟨M10, e9, h⟩ := ob h
        obtain ⟨fs11, hb12⟩ := (rX11_readAll e9)
        refine bz_callV0 (pc := 29) (As := []) (rest := []) X hM hl.1 k_RX11_120 (ctX11_readAll l e9) rfl hb12 rfl rfl ⟨(Nat.le_of_ble_eq_true rfl), (Nat.le_of_ble_eq_true rfl)⟩ (Nat.le_of_ble_eq_true rfl) ⟨(Nat.le_of_ble_eq_true rfl), (Nat.le_of_ble_eq_true rfl)⟩ dX11_seen_29 (fun H locs hM => ?_)
        refine lv_iconst (pc := 32) (v := (0 : Int32)) hx hb dX11_seen_32 (by decide) ?_
        refine lv_istore (pc := 33) (lv' := [(4, .int (0 : Int32)), (0, .ref (pB P + a0)), (1, .int a1), (2, .int a2), (3, .int a3)]) hx hb dX11_seen_33 hl (by decide) rfl (fun ls hl => ?_)
        refine lv_iconst (pc := 35) (v := (0 : Int32)) hx hb dX11_seen_35 (by decide) ?_
        refine lv_istore (pc := 36) (lv' := [(5, .int (0 : Int32)), (4, .int (0 : Int32)), (0, .ref (pB P + a0)), (1, .int a1), (2, .int a2), (3, .int a3)]) hx hb dX11_seen_36 hl (by decide) rfl (fun ls hl => ?_)
        exact wLX11_seen_38 hX _ _ _ _ _ _ _ _ h H locs ls hM (lv_sub hl [2, 3, 4, 5, 1, 0] rfl)
      · have h := if_t hc h
        exact wjX11_seen_22 hX _ _ h H locs ls hM (lv_sub hl [0] rfl)
theorem rX11_seen {N : Nat} {M : Mm} {a0 : Nat} {a1 : Int32} {a2 : Int32} {a3 : Int32} {r9 : Int32 × Mm} (h : fX11_seen N M a0 a1 a2 a3 = some r9) : ∃ fs, M[a0]? = some (.inr (11, fs)) := by
  unfold fX11_seen at h
  obtain ⟨_, e1, _⟩ := ob h
  exact gC_spec e1
theorem ctX11_seen (l : Launch) {P : PT} {N : Nat} {M : Mm} {a0 : Nat} {a1 : Int32} {a2 : Int32} {a3 : Int32} {r9 : Int32} {M9 : Mm} (h : fX11_seen N M a0 a1 a2 a3 = some (r9, M9)) : Ct l yX11_seen cX11_seen 7 (some .int) 4 0 P [.ref (pB P + a0), .int a1, .int a2, .int a3] M (some (.int r9)) M9 :=
  Ct.mk (by decide +kernel) (Nat.le_of_ble_eq_true rfl) (fun p e s m args below meth c hX => wX11_seen hX M a0 a1 a2 a3 h)
set_option maxHeartbeats 4000000 in
set_option maxRecDepth 100000 in
theorem wBX10_wrong_64 {p : Program} {l : Launch} {e : Env} {s : State} {m : MethodId} {args : Array Value} {below : List Frame} {meth : Method} {c : Code} {P : PT} {N : Nat} {K64 : Mm → Nat → Int32 → Int32 → Int32 → Int32 → Option (Int32 × Mm)}  {r9 : Int32} {M9 : Mm} (hX : Cy p s m args c meth cX10_wrong 7 RX10 "wrong" (some .int) P)  (hK64 : ∀ (M : Mm) (x0 : Nat) (x3 : Int32) (x4 : Int32) (x5 : Int32) (x6 : Int32), K64 M x0 x3 x4 x5 x6 = some (r9, M9) → Wq p l e s m args below meth c 5 0 (some (.int r9)) M9 7 P 0 64 [(0, .ref (pB P + x0)), (3, .int x3), (4, .int x4), (5, .int x5), (6, .int x6)] [] M) (M : Mm) (x0 : Nat) (x3 : Int32) (x4 : Int32) (x5 : Int32) (x6 : Int32)  (h : BX10_wrong_64 N K64 M x0 x3 x4 x5 x6 = some (r9, M9)) : Wq p l e s m args below meth c 5 0 (some (.int r9)) M9 7 P 0 64 [(0, .ref (pB P + x0)), (3, .int x3), (4, .int x4), (5, .int x5), (6, .int x6)] [] M := by
  unfold BX10_wrong_64 at h
  have hX0 := hX
  obtain ⟨X, hr, hlk, hnm⟩ := hX0
  have hx := X.1.1
  have hb := X.1.2.1
  intro H locs ls hM hl
  refine lv_iload (pc := 64) hx hb dX10_wrong_64 (lv_at hl 4 rfl) ?_
  refine lv_aload_n (pc := 66) hx hb dX10_wrong_66 rfl (lv_at hl 0 rfl) ?_
  obtain ⟨q1, e2, h⟩ := ob h
  refine bz_getQ (pc := 67) X hM fl_RX10_49 e2 dX10_wrong_67 ?_
  obtain ⟨q3, e4, h⟩ := ob h
  refine bz_getQ (pc := 70) X hM fl_RX10_296 e4 dX10_wrong_70 ?_
  obtain ⟨v6, e5, h⟩ := ob h
  obtain ⟨fs7, hb8⟩ := (rX3_size e5)
  refine bz_callV1 (pc := 73) (As := []) (rest := [.int x6]) X hM hl.1 k_RX10_96 (ctX3_size l e5) rfl hb8 rfl rfl ⟨(Nat.le_of_ble_eq_true rfl), (Nat.le_of_ble_eq_true rfl)⟩ (Nat.le_of_ble_eq_true rfl) ⟨(Nat.le_of_ble_eq_true rfl), (Nat.le_of_ble_eq_true rfl)⟩ dX10_wrong_73 (fun H locs hM => ?_)
  refine lv_icmp_ge (pc := 76) (tgt := 117) hx hb dX10_wrong_76 (by decide) (fun hc => ?_) (fun hc => ?_)
  · have h := if_t hc h
    refine lv_iload (pc := 117) hx hb dX10_wrong_117 (lv_at hl 3 rfl) ?_
    obtain ⟨rfl, rfl⟩ := so2 h
    exact bz_iret (pc := 119) X hM hr hlk dX10_wrong_119 (Nat.le_of_ble_eq_true rfl) (Nat.le_of_ble_eq_true rfl)
  · have h := if_f hc h
    refine lv_aload_n (pc := 79) hx hb dX10_wrong_79 rfl (lv_at hl 0 rfl) ?_
    obtain ⟨q9, e10, h⟩ := ob h
    refine bz_getQ (pc := 80) X hM fl_RX10_10 e10 dX10_wrong_80 ?_
    obtain ⟨q11, e12, h⟩ := ob h
    refine bz_getQ (pc := 83) X hM fl_RX10_290 e12 dX10_wrong_83 ?_
    refine lv_aload_n (pc := 86) hx hb dX10_wrong_86 rfl (lv_at hl 0 rfl) ?_
    obtain ⟨q13, e14, h⟩ := ob h
    refine bz_getQ (pc := 87) X hM fl_RX10_49 e14 dX10_wrong_87 ?_
    obtain ⟨q15, e16, h⟩ := ob h
    refine bz_getQ (pc := 90) X hM fl_RX10_296 e16 dX10_wrong_90 ?_
    refine lv_iload (pc := 93) hx hb dX10_wrong_93 (lv_at hl 4 rfl) ?_
    obtain ⟨v18, e17, h⟩ := ob h
    obtain ⟨fs19, hb20⟩ := (rX3_at e17)
    refine bz_callV1 (pc := 95) (As := [.int x6]) (rest := [.ref (pB P + q11)]) X hM hl.1 k_RX10_121 (ctX3_at l e17) rfl hb20 rfl rfl ⟨(Nat.le_of_ble_eq_true rfl), (Nat.le_of_ble_eq_true rfl)⟩ (Nat.le_of_ble_eq_true rfl) ⟨(Nat.le_of_ble_eq_true rfl), (Nat.le_of_ble_eq_true rfl)⟩ dX10_wrong_95 (fun H locs hM => ?_)
    refine lv_iload (pc := 98) hx hb dX10_wrong_98 (lv_at hl 2 rfl) ?_
    refine lv_isub (pc := 100) hx hb dX10_wrong_100 ?_
    refine lv_iload_n (pc := 101) hx hb dX10_wrong_101 rfl (lv_at hl 1 rfl) ?_
    obtain ⟨v22, e21, h⟩ := ob h
    obtain ⟨fs23, hb24⟩ := (rX3_hasNear e21)
    refine bz_callV1 (pc := 102) (As := [.int (v18 - x4), .int x3]) (rest := []) X hM hl.1 k_RX10_299 (ctX3_hasNear l e21) rfl hb24 rfl rfl ⟨(Nat.le_of_ble_eq_true rfl), (Nat.le_of_ble_eq_true rfl)⟩ (Nat.le_of_ble_eq_true rfl) ⟨(Nat.le_of_ble_eq_true rfl), (Nat.le_of_ble_eq_true rfl)⟩ dX10_wrong_102 (fun H locs hM => ?_)
    refine lv_if_ne (pc := 105) (tgt := 111) hx hb dX10_wrong_105 (by decide) (fun hc => ?_) (fun hc => ?_)
    · have h := if_f hc h
      refine lv_iinc (pc := 111) (v := (x6 + (1 : Int32))) (lv' := [(6, .int (x6 + (1 : Int32))), (0, .ref (pB P + x0)), (3, .int x3), (4, .int x4), (5, .int x5)]) hx hb dX10_wrong_111 hl (k := 4) rfl rfl (by decide) rfl (fun ls hl => ?_)
      refine lv_goto (pc := 114) (tgt := 64) hx hb dX10_wrong_114 (by decide) ?_
      exact hK64 _ _ _ _ _ _ h H locs ls hM (lv_sub hl [1, 2, 3, 4, 0] rfl)
    · have h := if_t hc h
      refine lv_iinc (pc := 108) (v := (x5 + (1 : Int32))) (lv' := [(5, .int (x5 + (1 : Int32))), (0, .ref (pB P + x0)), (3, .int x3), (4, .int x4), (6, .int x6)]) hx hb dX10_wrong_108 hl (k := 3) rfl rfl (by decide) rfl (fun ls hl => ?_)
      refine lv_iinc (pc := 111) (v := (x6 + (1 : Int32))) (lv' := [(6, .int (x6 + (1 : Int32))), (5, .int (x5 + (1 : Int32))), (0, .ref (pB P + x0)), (3, .int x3), (4, .int x4)]) hx hb dX10_wrong_111 hl (k := 4) rfl rfl (by decide) rfl (fun ls hl => ?_)
      refine lv_goto (pc := 114) (tgt := 64) hx hb dX10_wrong_114 (by decide) ?_
      exact hK64 _ _ _ _ _ _ h H locs ls hM (lv_sub hl [2, 3, 4, 1, 0] rfl)
set_option maxHeartbeats 4000000 in
set_option maxRecDepth 100000 in
theorem wLX10_wrong_64 {p : Program} {l : Launch} {e : Env} {s : State} {m : MethodId} {args : Array Value} {below : List Frame} {meth : Method} {c : Code} {P : PT} {N : Nat}  {r9 : Int32} {M9 : Mm} (hX : Cy p s m args c meth cX10_wrong 7 RX10 "wrong" (some .int) P)   : ∀ (n : Nat) (M : Mm) (x0 : Nat) (x3 : Int32) (x4 : Int32) (x5 : Int32) (x6 : Int32) , LX10_wrong_64 N n M x0 x3 x4 x5 x6 = some (r9, M9) → Wq p l e s m args below meth c 5 0 (some (.int r9)) M9 7 P 0 64 [(0, .ref (pB P + x0)), (3, .int x3), (4, .int x4), (5, .int x5), (6, .int x6)] [] M := by
  intro n
  induction n with
  | zero => intro M x0 x3 x4 x5 x6 h; cases h
  | succ n ih => intro M x0 x3 x4 x5 x6 h; exact wBX10_wrong_64 hX ih M x0 x3 x4 x5 x6 h
set_option maxHeartbeats 4000000 in
set_option maxRecDepth 100000 in
theorem wjX10_wrong_22 {p : Program} {l : Launch} {e : Env} {s : State} {m : MethodId} {args : Array Value} {below : List Frame} {meth : Method} {c : Code} {P : PT} {N : Nat}  {r9 : Int32} {M9 : Mm} (hX : Cy p s m args c meth cX10_wrong 7 RX10 "wrong" (some .int) P)   (M : Mm) (x0 : Nat)  (h : jX10_wrong_22 N M x0 = some (r9, M9)) : Wq p l e s m args below meth c 5 0 (some (.int r9)) M9 7 P 0 22 [(0, .ref (pB P + x0))] [] M := by
  unfold jX10_wrong_22 at h
  have hX0 := hX
  obtain ⟨X, hr, hlk, hnm⟩ := hX0
  have hx := X.1.1
  have hb := X.1.2.1
  intro H locs ls hM hl
  refine lv_aload_n (pc := 22) hx hb dX10_wrong_22 rfl (lv_at hl 0 rfl) ?_
  refine lv_iconst (pc := 23) (v := (1 : Int32)) hx hb dX10_wrong_23 (by decide) ?_
  obtain ⟨v2, M3, e1, h⟩ := ob2 h
  obtain ⟨fs4, hb5⟩ := (rX10_error e1)
  refine bz_callV1 (pc := 24) (As := [.int (1 : Int32)]) (rest := []) X hM hl.1 k_RX10_78 (ctX10_error l e1) rfl hb5 rfl rfl ⟨(Nat.le_of_ble_eq_true rfl), (Nat.le_of_ble_eq_true rfl)⟩ (Nat.le_of_ble_eq_true rfl) ⟨(Nat.le_of_ble_eq_true rfl), (Nat.le_of_ble_eq_true rfl)⟩ dX10_wrong_24 (fun H locs hM => ?_)
  obtain ⟨rfl, rfl⟩ := so2 h
  exact bz_iret (pc := 27) X hM hr hlk dX10_wrong_27 (Nat.le_of_ble_eq_true rfl) (Nat.le_of_ble_eq_true rfl)
set_option maxHeartbeats 4000000 in
set_option maxRecDepth 100000 in
theorem wX10_wrong {p : Program} {l : Launch} {e : Env} {s : State} {m : MethodId} {args : Array Value} {below : List Frame} {meth : Method} {c : Code} {P : PT} {N : Nat}  {r9 : Int32} {M9 : Mm} (hX : Cy p s m args c meth cX10_wrong 7 RX10 "wrong" (some .int) P)  (M : Mm) (a0 : Nat) (a1 : Int32) (a2 : Int32) (a3 : Int32) (h : fX10_wrong N M a0 a1 a2 a3 = some (r9, M9)) : Wq p l e s m args below meth c 5 0 (some (.int r9)) M9 7 P 0 0 [(0, .ref (pB P + a0)), (1, .int a1), (2, .int a2), (3, .int a3)] [] M := by
  unfold fX10_wrong at h
  obtain ⟨_, _, h⟩ := ob h
  have hX0 := hX
  obtain ⟨X, hr, hlk, hnm⟩ := hX0
  have hx := X.1.1
  have hb := X.1.2.1
  intro H locs ls hM hl
  refine lv_aload_n (pc := 0) hx hb dX10_wrong_0 rfl (lv_at hl 0 rfl) ?_
  refine lv_iload_n (pc := 1) hx hb dX10_wrong_1 rfl (lv_at hl 1 rfl) ?_
  obtain ⟨v2, e1, h⟩ := ob h
  obtain ⟨fs3, hb4⟩ := (rX10_isBar e1)
  refine bz_callV1 (pc := 2) (As := [.int a1]) (rest := []) X hM hl.1 k_RX10_100 (ctX10_isBar l e1) rfl hb4 rfl rfl ⟨(Nat.le_of_ble_eq_true rfl), (Nat.le_of_ble_eq_true rfl)⟩ (Nat.le_of_ble_eq_true rfl) ⟨(Nat.le_of_ble_eq_true rfl), (Nat.le_of_ble_eq_true rfl)⟩ dX10_wrong_2 (fun H locs hM => ?_)
  refine lv_if_eq (pc := 5) (tgt := 22) hx hb dX10_wrong_5 (by decide) (fun hc => ?_) (fun hc => ?_)
  · have h := if_t hc h
    exact wjX10_wrong_22 hX _ _ h H locs ls hM (lv_sub hl [0] rfl)
  · have h := if_f hc h
    refine lv_iload_n (pc := 8) hx hb dX10_wrong_8 rfl (lv_at hl 2 rfl) ?_
    obtain ⟨v6, e5, h⟩ := ob h
    refine bz_callS1 (pc := 9) (As := [.int a2]) (rest := []) X hM hl.1 k_RX10_145 (ctX10_isLine l e5) rfl rfl ⟨(Nat.le_of_ble_eq_true rfl), (Nat.le_of_ble_eq_true rfl)⟩ (Nat.le_of_ble_eq_true rfl) ⟨(Nat.le_of_ble_eq_true rfl), (Nat.le_of_ble_eq_true rfl)⟩ dX10_wrong_9 (fun H locs hM => ?_)
    refine lv_if_eq (pc := 12) (tgt := 22) hx hb dX10_wrong_12 (by decide) (fun hc => ?_) (fun hc => ?_)
    · have h := if_t hc h
      exact wjX10_wrong_22 hX _ _ h H locs ls hM (lv_sub hl [0] rfl)
    · have h := if_f hc h
      refine lv_iload_n (pc := 15) hx hb dX10_wrong_15 rfl (lv_at hl 3 rfl) ?_
      obtain ⟨v8, e7, h⟩ := ob h
      refine bz_callS1 (pc := 16) (As := [.int a3]) (rest := []) X hM hl.1 k_RX10_214 (ctX10_isWindow l e7) rfl rfl ⟨(Nat.le_of_ble_eq_true rfl), (Nat.le_of_ble_eq_true rfl)⟩ (Nat.le_of_ble_eq_true rfl) ⟨(Nat.le_of_ble_eq_true rfl), (Nat.le_of_ble_eq_true rfl)⟩ dX10_wrong_16 (fun H locs hM => ?_)
      refine lv_if_ne (pc := 19) (tgt := 28) hx hb dX10_wrong_19 (by decide) (fun hc => ?_) (fun hc => ?_)
      · have h := if_f hc h
        refine lv_aload_n (pc := 28) hx hb dX10_wrong_28 rfl (lv_at hl 0 rfl) ?_
        obtain ⟨q9, e10, h⟩ := ob h
        refine bz_getQ (pc := 29) X hM fl_RX10_49 e10 dX10_wrong_29 ?_
        refine lv_aload_n (pc := 32) hx hb dX10_wrong_32 rfl (lv_at hl 0 rfl) ?_
        obtain ⟨q11, e12, h⟩ := ob h
        refine bz_getQ (pc := 33) X hM fl_RX10_10 e12 dX10_wrong_33 ?_
        refine lv_iload_n (pc := 36) hx hb dX10_wrong_36 rfl (lv_at hl 1 rfl) ?_
        obtain ⟨M14, e13, h⟩ := ob h
        obtain ⟨fs15, hb16⟩ := (rX7_hear e13)
        refine bz_callV0 (pc := 37) (As := [.ref (pB P + q11), .int a1]) (rest := []) X hM hl.1 k_RX10_148 (ctX7_hear l e13) rfl hb16 rfl rfl ⟨(Nat.le_of_ble_eq_true rfl), (Nat.le_of_ble_eq_true rfl)⟩ (Nat.le_of_ble_eq_true rfl) ⟨(Nat.le_of_ble_eq_true rfl), (Nat.le_of_ble_eq_true rfl)⟩ dX10_wrong_37 (fun H locs hM => ?_)
        refine lv_aload_n (pc := 40) hx hb dX10_wrong_40 rfl (lv_at hl 0 rfl) ?_
        obtain ⟨q17, e18, h⟩ := ob h
        refine bz_getQ (pc := 41) X hM fl_RX10_49 e18 dX10_wrong_41 ?_
        refine lv_iload_n (pc := 44) hx hb dX10_wrong_44 rfl (lv_at hl 2 rfl) ?_
        obtain ⟨M20, e19, h⟩ := ob h
        obtain ⟨fs21, hb22⟩ := (rX7_keepAbove e19)
        refine bz_callV0 (pc := 45) (As := [.int a2]) (rest := []) X hM hl.1 k_RX10_293 (ctX7_keepAbove l e19) rfl hb22 rfl rfl ⟨(Nat.le_of_ble_eq_true rfl), (Nat.le_of_ble_eq_true rfl)⟩ (Nat.le_of_ble_eq_true rfl) ⟨(Nat.le_of_ble_eq_true rfl), (Nat.le_of_ble_eq_true rfl)⟩ dX10_wrong_45 (fun H locs hM => ?_)
        refine lv_aload_n (pc := 48) hx hb dX10_wrong_48 rfl (lv_at hl 0 rfl) ?_
        obtain ⟨q23, e24, h⟩ := ob h
        refine bz_getQ (pc := 49) X hM fl_RX10_10 e24 dX10_wrong_49 ?_
        refine lv_iload_n (pc := 52) hx hb dX10_wrong_52 rfl (lv_at hl 1 rfl) ?_
        obtain ⟨v26, e25, h⟩ := ob h
        obtain ⟨fs27, hb28⟩ := (rX6_clockOf e25)
        refine bz_callV1 (pc := 53) (As := [.int a1]) (rest := []) X hM hl.1 k_RX10_253 (ctX6_clockOf l e25) rfl hb28 rfl rfl ⟨(Nat.le_of_ble_eq_true rfl), (Nat.le_of_ble_eq_true rfl)⟩ (Nat.le_of_ble_eq_true rfl) ⟨(Nat.le_of_ble_eq_true rfl), (Nat.le_of_ble_eq_true rfl)⟩ dX10_wrong_53 (fun H locs hM => ?_)
        refine lv_istore (pc := 56) (lv' := [(4, .int v26), (0, .ref (pB P + a0)), (1, .int a1), (2, .int a2), (3, .int a3)]) hx hb dX10_wrong_56 hl (by decide) rfl (fun ls hl => ?_)
        refine lv_iconst (pc := 58) (v := (0 : Int32)) hx hb dX10_wrong_58 (by decide) ?_
        refine lv_istore (pc := 59) (lv' := [(5, .int (0 : Int32)), (4, .int v26), (0, .ref (pB P + a0)), (1, .int a1), (2, .int a2), (3, .int a3)]) hx hb dX10_wrong_59 hl (by decide) rfl (fun ls hl => ?_)
        refine lv_iconst (pc := 61) (v := (0 : Int32)) hx hb dX10_wrong_61 (by decide) ?_
        refine lv_istore (pc := 62) (lv' := [(6, .int (0 : Int32)), (5, .int (0 : Int32)), (4, .int v26), (0, .ref (pB P + a0)), (1, .int a1), (2, .int a2), (3, .int a3)]) hx hb dX10_wrong_62 hl (by decide) rfl (fun ls hl => ?_)
        exact wLX10_wrong_64 hX _ _ _ _ _ _ _ h H locs ls hM (lv_sub hl [3, 6, 2, 1, 0] rfl)
      · have h := if_t hc h
        exact wjX10_wrong_22 hX _ _ h H locs ls hM (lv_sub hl [0] rfl)
theorem rX10_wrong {N : Nat} {M : Mm} {a0 : Nat} {a1 : Int32} {a2 : Int32} {a3 : Int32} {r9 : Int32 × Mm} (h : fX10_wrong N M a0 a1 a2 a3 = some r9) : ∃ fs, M[a0]? = some (.inr (10, fs)) := by
  unfold fX10_wrong at h
  obtain ⟨_, e1, _⟩ := ob h
  exact gC_spec e1
theorem ctX10_wrong (l : Launch) {P : PT} {N : Nat} {M : Mm} {a0 : Nat} {a1 : Int32} {a2 : Int32} {a3 : Int32} {r9 : Int32} {M9 : Mm} (h : fX10_wrong N M a0 a1 a2 a3 = some (r9, M9)) : Ct l yX10_wrong cX10_wrong 7 (some .int) 5 0 P [.ref (pB P + a0), .int a1, .int a2, .int a3] M (some (.int r9)) M9 :=
  Ct.mk (by decide +kernel) (Nat.le_of_ble_eq_true rfl) (fun p e s m args below meth c hX => wX10_wrong hX M a0 a1 a2 a3 h)
set_option maxHeartbeats 4000000 in
set_option maxRecDepth 100000 in
theorem wjX11_wrong_103 {p : Program} {l : Launch} {e : Env} {s : State} {m : MethodId} {args : Array Value} {below : List Frame} {meth : Method} {c : Code} {P : PT} {N : Nat} {K38 : Mm → Nat → Int32 → Int32 → Int32 → Int32 → Int32 → Option (Int32 × Mm)}  {r9 : Int32} {M9 : Mm} (hX : Cy p s m args c meth cX11_wrong 8 RX11 "wrong" (some .int) P)  (hK38 : ∀ (M : Mm) (x0 : Nat) (x1 : Int32) (x2 : Int32) (x3 : Int32) (x4 : Int32) (x5 : Int32), K38 M x0 x1 x2 x3 x4 x5 = some (r9, M9) → Wq p l e s m args below meth c 4 0 (some (.int r9)) M9 8 P 0 38 [(0, .ref (pB P + x0)), (1, .int x1), (2, .int x2), (3, .int x3), (4, .int x4), (5, .int x5)] [] M) (M : Mm) (x0 : Nat) (x1 : Int32) (x2 : Int32) (x3 : Int32) (x4 : Int32) (x5 : Int32) (x6 : Int32)  (h : jX11_wrong_103 N K38 M x0 x1 x2 x3 x4 x5 x6 = some (r9, M9)) : Wq p l e s m args below meth c 4 0 (some (.int r9)) M9 8 P 0 103 [(0, .ref (pB P + x0)), (1, .int x1), (2, .int x2), (3, .int x3), (4, .int x4), (5, .int x5), (6, .int x6)] [] M := by
  unfold jX11_wrong_103 at h
  have hX0 := hX
  obtain ⟨X, hr, hlk, hnm⟩ := hX0
  have hx := X.1.1
  have hb := X.1.2.1
  intro H locs ls hM hl
  refine lv_iload (pc := 103) hx hb dX11_wrong_103 (lv_at hl 4 rfl) ?_
  refine lv_iload (pc := 105) hx hb dX11_wrong_105 (lv_at hl 6 rfl) ?_
  refine lv_if_eq (pc := 107) (tgt := 114) hx hb dX11_wrong_107 (by decide) (fun hc => ?_) (fun hc => ?_)
  · have h := if_t hc h
    refine lv_iconst (pc := 114) (v := (0 : Int32)) hx hb dX11_wrong_114 (by decide) ?_
    refine lv_iadd (pc := 115) hx hb dX11_wrong_115 ?_
    refine lv_istore (pc := 116) (lv' := [(4, .int (x4 + (0 : Int32))), (0, .ref (pB P + x0)), (1, .int x1), (2, .int x2), (3, .int x3), (5, .int x5), (6, .int x6)]) hx hb dX11_wrong_116 hl (by decide) rfl (fun ls hl => ?_)
    refine lv_iinc (pc := 118) (v := (x5 + (1 : Int32))) (lv' := [(5, .int (x5 + (1 : Int32))), (4, .int (x4 + (0 : Int32))), (0, .ref (pB P + x0)), (1, .int x1), (2, .int x2), (3, .int x3), (6, .int x6)]) hx hb dX11_wrong_118 hl (k := 5) rfl rfl (by decide) rfl (fun ls hl => ?_)
    refine lv_goto (pc := 121) (tgt := 38) hx hb dX11_wrong_121 (by decide) ?_
    exact hK38 _ _ _ _ _ _ _ h H locs ls hM (lv_sub hl [2, 3, 4, 5, 1, 0] rfl)
  · have h := if_f hc h
    refine lv_iconst (pc := 110) (v := (1 : Int32)) hx hb dX11_wrong_110 (by decide) ?_
    refine lv_goto (pc := 111) (tgt := 115) hx hb dX11_wrong_111 (by decide) ?_
    refine lv_iadd (pc := 115) hx hb dX11_wrong_115 ?_
    refine lv_istore (pc := 116) (lv' := [(4, .int (x4 + (1 : Int32))), (0, .ref (pB P + x0)), (1, .int x1), (2, .int x2), (3, .int x3), (5, .int x5), (6, .int x6)]) hx hb dX11_wrong_116 hl (by decide) rfl (fun ls hl => ?_)
    refine lv_iinc (pc := 118) (v := (x5 + (1 : Int32))) (lv' := [(5, .int (x5 + (1 : Int32))), (4, .int (x4 + (1 : Int32))), (0, .ref (pB P + x0)), (1, .int x1), (2, .int x2), (3, .int x3), (6, .int x6)]) hx hb dX11_wrong_118 hl (k := 5) rfl rfl (by decide) rfl (fun ls hl => ?_)
    refine lv_goto (pc := 121) (tgt := 38) hx hb dX11_wrong_121 (by decide) ?_
    exact hK38 _ _ _ _ _ _ _ h H locs ls hM (lv_sub hl [2, 3, 4, 5, 1, 0] rfl)
set_option maxHeartbeats 4000000 in
set_option maxRecDepth 100000 in
theorem wBX11_wrong_62 {p : Program} {l : Launch} {e : Env} {s : State} {m : MethodId} {args : Array Value} {below : List Frame} {meth : Method} {c : Code} {P : PT} {N : Nat} {K38 : Mm → Nat → Int32 → Int32 → Int32 → Int32 → Int32 → Option (Int32 × Mm)} {K62 : Mm → Nat → Int32 → Int32 → Int32 → Int32 → Int32 → Int32 → Int32 → Option (Int32 × Mm)}  {r9 : Int32} {M9 : Mm} (hX : Cy p s m args c meth cX11_wrong 8 RX11 "wrong" (some .int) P)  (hK38 : ∀ (M : Mm) (x0 : Nat) (x1 : Int32) (x2 : Int32) (x3 : Int32) (x4 : Int32) (x5 : Int32), K38 M x0 x1 x2 x3 x4 x5 = some (r9, M9) → Wq p l e s m args below meth c 4 0 (some (.int r9)) M9 8 P 0 38 [(0, .ref (pB P + x0)), (1, .int x1), (2, .int x2), (3, .int x3), (4, .int x4), (5, .int x5)] [] M) (hK62 : ∀ (M : Mm) (x0 : Nat) (x1 : Int32) (x2 : Int32) (x3 : Int32) (x4 : Int32) (x5 : Int32) (x6 : Int32) (x7 : Int32), K62 M x0 x1 x2 x3 x4 x5 x6 x7 = some (r9, M9) → Wq p l e s m args below meth c 4 0 (some (.int r9)) M9 8 P 0 62 [(0, .ref (pB P + x0)), (1, .int x1), (2, .int x2), (3, .int x3), (4, .int x4), (5, .int x5), (6, .int x6), (7, .int x7)] [] M) (M : Mm) (x0 : Nat) (x1 : Int32) (x2 : Int32) (x3 : Int32) (x4 : Int32) (x5 : Int32) (x6 : Int32) (x7 : Int32)  (h : BX11_wrong_62 N K38 K62 M x0 x1 x2 x3 x4 x5 x6 x7 = some (r9, M9)) : Wq p l e s m args below meth c 4 0 (some (.int r9)) M9 8 P 0 62 [(0, .ref (pB P + x0)), (1, .int x1), (2, .int x2), (3, .int x3), (4, .int x4), (5, .int x5), (6, .int x6), (7, .int x7)] [] M := by
  unfold BX11_wrong_62 at h
  have hX0 := hX
  obtain ⟨X, hr, hlk, hnm⟩ := hX0
  have hx := X.1.1
  have hb := X.1.2.1
  intro H locs ls hM hl
  refine lv_iload (pc := 62) hx hb dX11_wrong_62 (lv_at hl 7 rfl) ?_
  refine lv_aload_n (pc := 64) hx hb dX11_wrong_64 rfl (lv_at hl 0 rfl) ?_
  obtain ⟨q1, e2, h⟩ := ob h
  refine bz_getQ (pc := 65) X hM fl_RX11_9 e2 dX11_wrong_65 ?_
  refine lv_iconst (pc := 68) (v := (4 : Int32)) hx hb dX11_wrong_68 (by decide) ?_
  obtain ⟨v3, e4, h⟩ := ob h
  refine bz_iald (pc := 69) X hM e4 dX11_wrong_69 ?_
  refine lv_icmp_ge (pc := 70) (tgt := 103) hx hb dX11_wrong_70 (by decide) (fun hc => ?_) (fun hc => ?_)
  · have h := if_t hc h
    exact wjX11_wrong_103 hX hK38 _ _ _ _ _ _ _ _ h H locs ls hM (lv_sub hl [0, 1, 2, 3, 4, 5, 6] rfl)
  · have h := if_f hc h
    refine lv_iload (pc := 73) hx hb dX11_wrong_73 (lv_at hl 6 rfl) ?_
    refine lv_if_eq (pc := 75) (tgt := 103) hx hb dX11_wrong_75 (by decide) (fun hc => ?_) (fun hc => ?_)
    · have h := if_t hc h
      exact wjX11_wrong_103 hX hK38 _ _ _ _ _ _ _ _ h H locs ls hM (lv_sub hl [0, 1, 2, 3, 4, 5, 6] rfl)
    · have h := if_f hc h
      refine lv_aload_n (pc := 78) hx hb dX11_wrong_78 rfl (lv_at hl 0 rfl) ?_
      refine lv_iload (pc := 79) hx hb dX11_wrong_79 (lv_at hl 5 rfl) ?_
      refine lv_iload (pc := 81) hx hb dX11_wrong_81 (lv_at hl 7 rfl) ?_
      refine lv_iload_n (pc := 83) hx hb dX11_wrong_83 rfl (lv_at hl 3 rfl) ?_
      obtain ⟨v6, e5, h⟩ := ob h
      obtain ⟨fs7, hb8⟩ := (rX11_isNear e5)
      refine bz_callV1 (pc := 84) (As := [.int x5, .int x7, .int x3]) (rest := []) X hM hl.1 k_RX11_273 (ctX11_isNear l e5) rfl hb8 rfl rfl ⟨(Nat.le_of_ble_eq_true rfl), (Nat.le_of_ble_eq_true rfl)⟩ (Nat.le_of_ble_eq_true rfl) ⟨(Nat.le_of_ble_eq_true rfl), (Nat.le_of_ble_eq_true rfl)⟩ dX11_wrong_84 (fun H locs hM => ?_)
      refine lv_if_ne (pc := 87) (tgt := 94) hx hb dX11_wrong_87 (by decide) (fun hc => ?_) (fun hc => ?_)
      · have h := if_f hc h
        refine lv_iconst (pc := 94) (v := (0 : Int32)) hx hb dX11_wrong_94 (by decide) ?_
        refine lv_istore (pc := 95) (lv' := [(6, .int (0 : Int32)), (0, .ref (pB P + x0)), (1, .int x1), (2, .int x2), (3, .int x3), (4, .int x4), (5, .int x5), (7, .int x7)]) hx hb dX11_wrong_95 hl (by decide) rfl (fun ls hl => ?_)
        refine lv_iinc (pc := 97) (v := (x7 + (1 : Int32))) (lv' := [(7, .int (x7 + (1 : Int32))), (6, .int (0 : Int32)), (0, .ref (pB P + x0)), (1, .int x1), (2, .int x2), (3, .int x3), (4, .int x4), (5, .int x5)]) hx hb dX11_wrong_97 hl (k := 7) rfl rfl (by decide) rfl (fun ls hl => ?_)
        refine lv_goto (pc := 100) (tgt := 62) hx hb dX11_wrong_100 (by decide) ?_
        exact hK62 _ _ _ _ _ _ _ _ _ h H locs ls hM (lv_sub hl [2, 3, 4, 5, 6, 7, 1, 0] rfl)
      · have h := if_t hc h
        refine lv_iconst (pc := 90) (v := (1 : Int32)) hx hb dX11_wrong_90 (by decide) ?_
        refine lv_goto (pc := 91) (tgt := 95) hx hb dX11_wrong_91 (by decide) ?_
        refine lv_istore (pc := 95) (lv' := [(6, .int (1 : Int32)), (0, .ref (pB P + x0)), (1, .int x1), (2, .int x2), (3, .int x3), (4, .int x4), (5, .int x5), (7, .int x7)]) hx hb dX11_wrong_95 hl (by decide) rfl (fun ls hl => ?_)
        refine lv_iinc (pc := 97) (v := (x7 + (1 : Int32))) (lv' := [(7, .int (x7 + (1 : Int32))), (6, .int (1 : Int32)), (0, .ref (pB P + x0)), (1, .int x1), (2, .int x2), (3, .int x3), (4, .int x4), (5, .int x5)]) hx hb dX11_wrong_97 hl (k := 7) rfl rfl (by decide) rfl (fun ls hl => ?_)
        refine lv_goto (pc := 100) (tgt := 62) hx hb dX11_wrong_100 (by decide) ?_
        exact hK62 _ _ _ _ _ _ _ _ _ h H locs ls hM (lv_sub hl [2, 3, 4, 5, 6, 7, 1, 0] rfl)
set_option maxHeartbeats 4000000 in
set_option maxRecDepth 100000 in
theorem wLX11_wrong_62 {p : Program} {l : Launch} {e : Env} {s : State} {m : MethodId} {args : Array Value} {below : List Frame} {meth : Method} {c : Code} {P : PT} {N : Nat} {K38 : Mm → Nat → Int32 → Int32 → Int32 → Int32 → Int32 → Option (Int32 × Mm)}  {r9 : Int32} {M9 : Mm} (hX : Cy p s m args c meth cX11_wrong 8 RX11 "wrong" (some .int) P)  (hK38 : ∀ (M : Mm) (x0 : Nat) (x1 : Int32) (x2 : Int32) (x3 : Int32) (x4 : Int32) (x5 : Int32), K38 M x0 x1 x2 x3 x4 x5 = some (r9, M9) → Wq p l e s m args below meth c 4 0 (some (.int r9)) M9 8 P 0 38 [(0, .ref (pB P + x0)), (1, .int x1), (2, .int x2), (3, .int x3), (4, .int x4), (5, .int x5)] [] M) : ∀ (n : Nat) (M : Mm) (x0 : Nat) (x1 : Int32) (x2 : Int32) (x3 : Int32) (x4 : Int32) (x5 : Int32) (x6 : Int32) (x7 : Int32) , LX11_wrong_62 N K38 n M x0 x1 x2 x3 x4 x5 x6 x7 = some (r9, M9) → Wq p l e s m args below meth c 4 0 (some (.int r9)) M9 8 P 0 62 [(0, .ref (pB P + x0)), (1, .int x1), (2, .int x2), (3, .int x3), (4, .int x4), (5, .int x5), (6, .int x6), (7, .int x7)] [] M := by
  intro n
  induction n with
  | zero => intro M x0 x1 x2 x3 x4 x5 x6 x7 h; cases h
  | succ n ih => intro M x0 x1 x2 x3 x4 x5 x6 x7 h; exact wBX11_wrong_62 hX hK38 ih M x0 x1 x2 x3 x4 x5 x6 x7 h
set_option maxHeartbeats 4000000 in
set_option maxRecDepth 100000 in
theorem wBX11_wrong_38 {p : Program} {l : Launch} {e : Env} {s : State} {m : MethodId} {args : Array Value} {below : List Frame} {meth : Method} {c : Code} {P : PT} {N : Nat} {K38 : Mm → Nat → Int32 → Int32 → Int32 → Int32 → Int32 → Option (Int32 × Mm)}  {r9 : Int32} {M9 : Mm} (hX : Cy p s m args c meth cX11_wrong 8 RX11 "wrong" (some .int) P)  (hK38 : ∀ (M : Mm) (x0 : Nat) (x1 : Int32) (x2 : Int32) (x3 : Int32) (x4 : Int32) (x5 : Int32), K38 M x0 x1 x2 x3 x4 x5 = some (r9, M9) → Wq p l e s m args below meth c 4 0 (some (.int r9)) M9 8 P 0 38 [(0, .ref (pB P + x0)), (1, .int x1), (2, .int x2), (3, .int x3), (4, .int x4), (5, .int x5)] [] M) (M : Mm) (x0 : Nat) (x1 : Int32) (x2 : Int32) (x3 : Int32) (x4 : Int32) (x5 : Int32)  (h : BX11_wrong_38 N K38 M x0 x1 x2 x3 x4 x5 = some (r9, M9)) : Wq p l e s m args below meth c 4 0 (some (.int r9)) M9 8 P 0 38 [(0, .ref (pB P + x0)), (1, .int x1), (2, .int x2), (3, .int x3), (4, .int x4), (5, .int x5)] [] M := by
  unfold BX11_wrong_38 at h
  have hX0 := hX
  obtain ⟨X, hr, hlk, hnm⟩ := hX0
  have hx := X.1.1
  have hb := X.1.2.1
  intro H locs ls hM hl
  refine lv_iload (pc := 38) hx hb dX11_wrong_38 (lv_at hl 5 rfl) ?_
  refine lv_aload_n (pc := 40) hx hb dX11_wrong_40 rfl (lv_at hl 0 rfl) ?_
  obtain ⟨q1, e2, h⟩ := ob h
  refine bz_getQ (pc := 41) X hM fl_RX11_9 e2 dX11_wrong_41 ?_
  refine lv_iconst (pc := 44) (v := (1 : Int32)) hx hb dX11_wrong_44 (by decide) ?_
  obtain ⟨v3, e4, h⟩ := ob h
  refine bz_iald (pc := 45) X hM e4 dX11_wrong_45 ?_
  refine lv_icmp_ge (pc := 46) (tgt := 124) hx hb dX11_wrong_46 (by decide) (fun hc => ?_) (fun hc => ?_)
  · have h := if_t hc h
    refine lv_iload (pc := 124) hx hb dX11_wrong_124 (lv_at hl 4 rfl) ?_
    obtain ⟨rfl, rfl⟩ := so2 h
    exact bz_iret (pc := 126) X hM hr hlk dX11_wrong_126 (Nat.le_of_ble_eq_true rfl) (Nat.le_of_ble_eq_true rfl)
  · have h := if_f hc h
    refine lv_aload_n (pc := 49) hx hb dX11_wrong_49 rfl (lv_at hl 0 rfl) ?_
    refine lv_iload (pc := 50) hx hb dX11_wrong_50 (lv_at hl 5 rfl) ?_
    refine lv_iload_n (pc := 52) hx hb dX11_wrong_52 rfl (lv_at hl 1 rfl) ?_
    refine lv_iload_n (pc := 53) hx hb dX11_wrong_53 rfl (lv_at hl 2 rfl) ?_
    obtain ⟨v6, e5, h⟩ := ob h
    obtain ⟨fs7, hb8⟩ := (rX11_isCounted e5)
    refine bz_callV1 (pc := 54) (As := [.int x5, .int x1, .int x2]) (rest := []) X hM hl.1 k_RX11_123 (ctX11_isCounted l e5) rfl hb8 rfl rfl ⟨(Nat.le_of_ble_eq_true rfl), (Nat.le_of_ble_eq_true rfl)⟩ (Nat.le_of_ble_eq_true rfl) ⟨(Nat.le_of_ble_eq_true rfl), (Nat.le_of_ble_eq_true rfl)⟩ dX11_wrong_54 (fun H locs hM => ?_)
    refine lv_istore (pc := 57) (lv' := [(6, .int v6), (0, .ref (pB P + x0)), (1, .int x1), (2, .int x2), (3, .int x3), (4, .int x4), (5, .int x5)]) hx hb dX11_wrong_57 hl (by decide) rfl (fun ls hl => ?_)
    refine lv_iconst (pc := 59) (v := (0 : Int32)) hx hb dX11_wrong_59 (by decide) ?_
    refine lv_istore (pc := 60) (lv' := [(7, .int (0 : Int32)), (6, .int v6), (0, .ref (pB P + x0)), (1, .int x1), (2, .int x2), (3, .int x3), (4, .int x4), (5, .int x5)]) hx hb dX11_wrong_60 hl (by decide) rfl (fun ls hl => ?_)
    exact wLX11_wrong_62 hX hK38 _ _ _ _ _ _ _ _ _ _ h H locs ls hM (lv_sub hl [2, 3, 4, 5, 6, 7, 1, 0] rfl)
set_option maxHeartbeats 4000000 in
set_option maxRecDepth 100000 in
theorem wLX11_wrong_38 {p : Program} {l : Launch} {e : Env} {s : State} {m : MethodId} {args : Array Value} {below : List Frame} {meth : Method} {c : Code} {P : PT} {N : Nat}  {r9 : Int32} {M9 : Mm} (hX : Cy p s m args c meth cX11_wrong 8 RX11 "wrong" (some .int) P)   : ∀ (n : Nat) (M : Mm) (x0 : Nat) (x1 : Int32) (x2 : Int32) (x3 : Int32) (x4 : Int32) (x5 : Int32) , LX11_wrong_38 N n M x0 x1 x2 x3 x4 x5 = some (r9, M9) → Wq p l e s m args below meth c 4 0 (some (.int r9)) M9 8 P 0 38 [(0, .ref (pB P + x0)), (1, .int x1), (2, .int x2), (3, .int x3), (4, .int x4), (5, .int x5)] [] M := by
  intro n
  induction n with
  | zero => intro M x0 x1 x2 x3 x4 x5 h; cases h
  | succ n ih => intro M x0 x1 x2 x3 x4 x5 h; exact wBX11_wrong_38 hX ih M x0 x1 x2 x3 x4 x5 h
set_option maxHeartbeats 4000000 in
set_option maxRecDepth 100000 in
theorem wjX11_wrong_22 {p : Program} {l : Launch} {e : Env} {s : State} {m : MethodId} {args : Array Value} {below : List Frame} {meth : Method} {c : Code} {P : PT} {N : Nat}  {r9 : Int32} {M9 : Mm} (hX : Cy p s m args c meth cX11_wrong 8 RX11 "wrong" (some .int) P)   (M : Mm) (x0 : Nat)  (h : jX11_wrong_22 N M x0 = some (r9, M9)) : Wq p l e s m args below meth c 4 0 (some (.int r9)) M9 8 P 0 22 [(0, .ref (pB P + x0))] [] M := by
  unfold jX11_wrong_22 at h
  have hX0 := hX
  obtain ⟨X, hr, hlk, hnm⟩ := hX0
  have hx := X.1.1
  have hb := X.1.2.1
  intro H locs ls hM hl
  refine lv_aload_n (pc := 22) hx hb dX11_wrong_22 rfl (lv_at hl 0 rfl) ?_
  refine lv_iconst (pc := 23) (v := (1 : Int32)) hx hb dX11_wrong_23 (by decide) ?_
  obtain ⟨v2, M3, e1, h⟩ := ob2 h
  obtain ⟨fs4, hb5⟩ := (rX11_error e1)
  refine bz_callV1 (pc := 24) (As := [.int (1 : Int32)]) (rest := []) X hM hl.1 k_RX11_73 (ctX11_error l e1) rfl hb5 rfl rfl ⟨(Nat.le_of_ble_eq_true rfl), (Nat.le_of_ble_eq_true rfl)⟩ (Nat.le_of_ble_eq_true rfl) ⟨(Nat.le_of_ble_eq_true rfl), (Nat.le_of_ble_eq_true rfl)⟩ dX11_wrong_24 (fun H locs hM => ?_)
  obtain ⟨rfl, rfl⟩ := so2 h
  exact bz_iret (pc := 27) X hM hr hlk dX11_wrong_27 (Nat.le_of_ble_eq_true rfl) (Nat.le_of_ble_eq_true rfl)
set_option maxHeartbeats 4000000 in
set_option maxRecDepth 100000 in
theorem wX11_wrong {p : Program} {l : Launch} {e : Env} {s : State} {m : MethodId} {args : Array Value} {below : List Frame} {meth : Method} {c : Code} {P : PT} {N : Nat}  {r9 : Int32} {M9 : Mm} (hX : Cy p s m args c meth cX11_wrong 8 RX11 "wrong" (some .int) P)  (M : Mm) (a0 : Nat) (a1 : Int32) (a2 : Int32) (a3 : Int32) (h : fX11_wrong N M a0 a1 a2 a3 = some (r9, M9)) : Wq p l e s m args below meth c 4 0 (some (.int r9)) M9 8 P 0 0 [(0, .ref (pB P + a0)), (1, .int a1), (2, .int a2), (3, .int a3)] [] M := by
  unfold fX11_wrong at h
  obtain ⟨_, _, h⟩ := ob h
  have hX0 := hX
  obtain ⟨X, hr, hlk, hnm⟩ := hX0
  have hx := X.1.1
  have hb := X.1.2.1
  intro H locs ls hM hl
  refine lv_aload_n (pc := 0) hx hb dX11_wrong_0 rfl (lv_at hl 0 rfl) ?_
  refine lv_iload_n (pc := 1) hx hb dX11_wrong_1 rfl (lv_at hl 1 rfl) ?_
  obtain ⟨v2, e1, h⟩ := ob h
  obtain ⟨fs3, hb4⟩ := (rX11_isBar e1)
  refine bz_callV1 (pc := 2) (As := [.int a1]) (rest := []) X hM hl.1 k_RX11_65 (ctX11_isBar l e1) rfl hb4 rfl rfl ⟨(Nat.le_of_ble_eq_true rfl), (Nat.le_of_ble_eq_true rfl)⟩ (Nat.le_of_ble_eq_true rfl) ⟨(Nat.le_of_ble_eq_true rfl), (Nat.le_of_ble_eq_true rfl)⟩ dX11_wrong_2 (fun H locs hM => ?_)
  refine lv_if_eq (pc := 5) (tgt := 22) hx hb dX11_wrong_5 (by decide) (fun hc => ?_) (fun hc => ?_)
  · have h := if_t hc h
    exact wjX11_wrong_22 hX _ _ h H locs ls hM (lv_sub hl [0] rfl)
  · have h := if_f hc h
    refine lv_iload_n (pc := 8) hx hb dX11_wrong_8 rfl (lv_at hl 2 rfl) ?_
    obtain ⟨v6, e5, h⟩ := ob h
    refine bz_callS1 (pc := 9) (As := [.int a2]) (rest := []) X hM hl.1 k_RX11_117 (ctX11_isLine l e5) rfl rfl ⟨(Nat.le_of_ble_eq_true rfl), (Nat.le_of_ble_eq_true rfl)⟩ (Nat.le_of_ble_eq_true rfl) ⟨(Nat.le_of_ble_eq_true rfl), (Nat.le_of_ble_eq_true rfl)⟩ dX11_wrong_9 (fun H locs hM => ?_)
    refine lv_if_eq (pc := 12) (tgt := 22) hx hb dX11_wrong_12 (by decide) (fun hc => ?_) (fun hc => ?_)
    · have h := if_t hc h
      exact wjX11_wrong_22 hX _ _ h H locs ls hM (lv_sub hl [0] rfl)
    · have h := if_f hc h
      refine lv_iload_n (pc := 15) hx hb dX11_wrong_15 rfl (lv_at hl 3 rfl) ?_
      obtain ⟨v8, e7, h⟩ := ob h
      refine bz_callS1 (pc := 16) (As := [.int a3]) (rest := []) X hM hl.1 k_RX11_134 (ctX11_isWindow l e7) rfl rfl ⟨(Nat.le_of_ble_eq_true rfl), (Nat.le_of_ble_eq_true rfl)⟩ (Nat.le_of_ble_eq_true rfl) ⟨(Nat.le_of_ble_eq_true rfl), (Nat.le_of_ble_eq_true rfl)⟩ dX11_wrong_16 (fun H locs hM => ?_)
      refine lv_if_ne (pc := 19) (tgt := 28) hx hb dX11_wrong_19 (by decide) (fun hc => ?_) (fun hc => ?_)
      · have h := if_f hc h
        refine lv_aload_n (pc := 28) hx hb dX11_wrong_28 rfl (lv_at hl 0 rfl) ?_
        obtain ⟨M10, e9, h⟩ := ob h
        obtain ⟨fs11, hb12⟩ := (rX11_readAll e9)
        refine bz_callV0 (pc := 29) (As := []) (rest := []) X hM hl.1 k_RX11_120 (ctX11_readAll l e9) rfl hb12 rfl rfl ⟨(Nat.le_of_ble_eq_true rfl), (Nat.le_of_ble_eq_true rfl)⟩ (Nat.le_of_ble_eq_true rfl) ⟨(Nat.le_of_ble_eq_true rfl), (Nat.le_of_ble_eq_true rfl)⟩ dX11_wrong_29 (fun H locs hM => ?_)
        refine lv_iconst (pc := 32) (v := (0 : Int32)) hx hb dX11_wrong_32 (by decide) ?_
        refine lv_istore (pc := 33) (lv' := [(4, .int (0 : Int32)), (0, .ref (pB P + a0)), (1, .int a1), (2, .int a2), (3, .int a3)]) hx hb dX11_wrong_33 hl (by decide) rfl (fun ls hl => ?_)
        refine lv_iconst (pc := 35) (v := (0 : Int32)) hx hb dX11_wrong_35 (by decide) ?_
        refine lv_istore (pc := 36) (lv' := [(5, .int (0 : Int32)), (4, .int (0 : Int32)), (0, .ref (pB P + a0)), (1, .int a1), (2, .int a2), (3, .int a3)]) hx hb dX11_wrong_36 hl (by decide) rfl (fun ls hl => ?_)
        exact wLX11_wrong_38 hX _ _ _ _ _ _ _ _ h H locs ls hM (lv_sub hl [2, 3, 4, 5, 1, 0] rfl)
      · have h := if_t hc h
        exact wjX11_wrong_22 hX _ _ h H locs ls hM (lv_sub hl [0] rfl)
theorem rX11_wrong {N : Nat} {M : Mm} {a0 : Nat} {a1 : Int32} {a2 : Int32} {a3 : Int32} {r9 : Int32 × Mm} (h : fX11_wrong N M a0 a1 a2 a3 = some r9) : ∃ fs, M[a0]? = some (.inr (11, fs)) := by
  unfold fX11_wrong at h
  obtain ⟨_, e1, _⟩ := ob h
  exact gC_spec e1
theorem ctX11_wrong (l : Launch) {P : PT} {N : Nat} {M : Mm} {a0 : Nat} {a1 : Int32} {a2 : Int32} {a3 : Int32} {r9 : Int32} {M9 : Mm} (h : fX11_wrong N M a0 a1 a2 a3 = some (r9, M9)) : Ct l yX11_wrong cX11_wrong 8 (some .int) 4 0 P [.ref (pB P + a0), .int a1, .int a2, .int a3] M (some (.int r9)) M9 :=
  Ct.mk (by decide +kernel) (Nat.le_of_ble_eq_true rfl) (fun p e s m args below meth c hX => wX11_wrong hX M a0 a1 a2 a3 h)
