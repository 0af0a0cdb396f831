set_option maxHeartbeats 4000000 in
set_option maxRecDepth 100000 in
theorem wjX11_weight_19 {p : Program} {l : Launch} {e : Env} {s : State} {m : MethodId} {args : Array Value} {below : List Frame} {meth : Method} {c : Code} {P : PT}  {r9 : Int32} {M9 : Mm} (hX : Cy p s m args c meth cX11_weight 4 RX11 "weight" (some .int) P)   (M : Mm) (x0 : Nat)  (h : jX11_weight_19 M x0 = some (r9, M9)) : Wq p l e s m args below meth c 2 0 (some (.int r9)) M9 4 P 0 19 [(0, .ref (pB P + x0))] [] M := by
  unfold jX11_weight_19 at h
  have hX0 := hX
  obtain ⟨X, hr, hlk, hnm⟩ := hX0
  have hx := X.1.1
  have hb := X.1.2.1
  intro H locs ls hM hl
  refine lv_aload_n (pc := 19) hx hb dX11_weight_19 rfl (lv_at hl 0 rfl) ?_
  refine lv_iconst (pc := 20) (v := (1 : Int32)) hx hb dX11_weight_20 (by decide) ?_
  obtain ⟨v2, M3, e1, h⟩ := ob2 h
  obtain ⟨fs4, hb5⟩ := (rX11_error e1)
  refine bz_callV1 (pc := 21) (As := [.int (1 : Int32)]) (rest := []) X hM hl.1 k_RX11_73 (ctX11_error l e1) rfl hb5 rfl rfl ⟨(Nat.le_of_ble_eq_true rfl), (Nat.le_of_ble_eq_true rfl)⟩ (Nat.le_of_ble_eq_true rfl) ⟨(Nat.le_of_ble_eq_true rfl), (Nat.le_of_ble_eq_true rfl)⟩ dX11_weight_21 (fun H locs hM => ?_)
  obtain ⟨rfl, rfl⟩ := so2 h
  exact bz_iret (pc := 24) X hM hr hlk dX11_weight_24 (Nat.le_of_ble_eq_true rfl) (Nat.le_of_ble_eq_true rfl)
set_option maxHeartbeats 4000000 in
set_option maxRecDepth 100000 in
theorem wX11_weight {p : Program} {l : Launch} {e : Env} {s : State} {m : MethodId} {args : Array Value} {below : List Frame} {meth : Method} {c : Code} {P : PT}  {r9 : Int32} {M9 : Mm} (hX : Cy p s m args c meth cX11_weight 4 RX11 "weight" (some .int) P)  (M : Mm) (a0 : Nat) (a1 : Int32) (a2 : Int32) (h : fX11_weight M a0 a1 a2 = some (r9, M9)) : Wq p l e s m args below meth c 2 0 (some (.int r9)) M9 4 P 0 0 [(0, .ref (pB P + a0)), (1, .int a1), (2, .int a2)] [] M := by
  unfold fX11_weight at h
  obtain ⟨_, _, h⟩ := ob h
  have hX0 := hX
  obtain ⟨X, hr, hlk, hnm⟩ := hX0
  have hx := X.1.1
  have hb := X.1.2.1
  intro H locs ls hM hl
  refine lv_iload_n (pc := 0) hx hb dX11_weight_0 rfl (lv_at hl 1 rfl) ?_
  obtain ⟨v2, e1, h⟩ := ob h
  refine bz_callS1 (pc := 1) (As := [.int a1]) (rest := []) X hM hl.1 k_RX11_211 (ctX11_isLaw l e1) rfl rfl ⟨(Nat.le_of_ble_eq_true rfl), (Nat.le_of_ble_eq_true rfl)⟩ (Nat.le_of_ble_eq_true rfl) ⟨(Nat.le_of_ble_eq_true rfl), (Nat.le_of_ble_eq_true rfl)⟩ dX11_weight_1 (fun H locs hM => ?_)
  refine lv_if_eq (pc := 4) (tgt := 19) hx hb dX11_weight_4 (by decide) (fun hc => ?_) (fun hc => ?_)
  · have h := if_t hc h
    exact wjX11_weight_19 hX _ _ h H locs ls hM (lv_sub hl [0] rfl)
  · have h := if_f hc h
    refine lv_iload_n (pc := 7) hx hb dX11_weight_7 rfl (lv_at hl 2 rfl) ?_
    refine lv_i2l (pc := 8) (v := ((a2).toInt64)) hx hb dX11_weight_8 rfl ?_
    refine lv_lconst (pc := 9) (v := (0 : Int64)) hx hb dX11_weight_9 (by decide) ?_
    refine lv_ldc2 (pc := 10) (v := (99 : Int64)) hx hb X.1.2.2.2.1 (X.1.2.2.2.2 _ g_1602) dX11_weight_10 ?_
    obtain ⟨v4, e3, h⟩ := ob h
    refine bz_callS1 (pc := 13) (As := [.long ((a2).toInt64), .long (0 : Int64), .long (99 : Int64)]) (rest := []) X hM hl.1 k_RX11_57 (ctX11_in l e3) rfl rfl ⟨(Nat.le_of_ble_eq_true rfl), (Nat.le_of_ble_eq_true rfl)⟩ (Nat.le_of_ble_eq_true rfl) ⟨(Nat.le_of_ble_eq_true rfl), (Nat.le_of_ble_eq_true rfl)⟩ dX11_weight_13 (fun H locs hM => ?_)
    refine lv_if_ne (pc := 16) (tgt := 25) hx hb dX11_weight_16 (by decide) (fun hc => ?_) (fun hc => ?_)
    · have h := if_f hc h
      refine lv_aload_n (pc := 25) hx hb dX11_weight_25 rfl (lv_at hl 0 rfl) ?_
      obtain ⟨q5, e6, h⟩ := ob h
      refine bz_getQ (pc := 26) X hM fl_RX11_9 e6 dX11_weight_26 ?_
      refine lv_sipush (pc := 29) (v := (398 : Int32)) hx hb dX11_weight_29 (by decide) ?_
      refine lv_iload_n (pc := 32) hx hb dX11_weight_32 rfl (lv_at hl 1 rfl) ?_
      refine lv_iadd (pc := 33) hx hb dX11_weight_33 ?_
      obtain ⟨v7, e8, h⟩ := ob h
      refine bz_iald (pc := 34) X hM e8 dX11_weight_34 ?_
      refine lv_istore_n (pc := 35) (lv' := [(3, .int v7), (0, .ref (pB P + a0)), (1, .int a1), (2, .int a2)]) hx hb dX11_weight_35 rfl hl (by decide) rfl (fun ls hl => ?_)
      refine lv_aload_n (pc := 36) hx hb dX11_weight_36 rfl (lv_at hl 1 rfl) ?_
      obtain ⟨q9, e10, h⟩ := ob h
      refine bz_getQ (pc := 37) X hM fl_RX11_9 e10 dX11_weight_37 ?_
      refine lv_sipush (pc := 40) (v := (398 : Int32)) hx hb dX11_weight_40 (by decide) ?_
      refine lv_iload_n (pc := 43) hx hb dX11_weight_43 rfl (lv_at hl 2 rfl) ?_
      refine lv_iadd (pc := 44) hx hb dX11_weight_44 ?_
      refine lv_iload_n (pc := 45) hx hb dX11_weight_45 rfl (lv_at hl 3 rfl) ?_
      obtain ⟨M11, e12, h⟩ := ob h
      refine bz_iast (pc := 46) X hM e12 dX11_weight_46 (fun H locs hM => ?_)
      refine lv_iload_n (pc := 47) hx hb dX11_weight_47 rfl (lv_at hl 0 rfl) ?_
      obtain ⟨rfl, rfl⟩ := so2 h
      exact bz_iret (pc := 48) X hM hr hlk dX11_weight_48 (Nat.le_of_ble_eq_true rfl) (Nat.le_of_ble_eq_true rfl)
    · have h := if_t hc h
      exact wjX11_weight_19 hX _ _ h H locs ls hM (lv_sub hl [0] rfl)
theorem rX11_weight {M : Mm} {a0 : Nat} {a1 : Int32} {a2 : Int32} {r9 : Int32 × Mm} (h : fX11_weight M a0 a1 a2 = some r9) : ∃ fs, M[a0]? = some (.inr (11, fs)) := by
  unfold fX11_weight at h
  obtain ⟨_, e1, _⟩ := ob h
  exact gC_spec e1
theorem ctX11_weight (l : Launch) {P : PT} {M : Mm} {a0 : Nat} {a1 : Int32} {a2 : Int32} {r9 : Int32} {M9 : Mm} (h : fX11_weight M a0 a1 a2 = some (r9, M9)) : Ct l yX11_weight cX11_weight 4 (some .int) 2 0 P [.ref (pB P + a0), .int a1, .int a2] M (some (.int r9)) M9 :=
  Ct.mk (by decide +kernel) (Nat.le_of_ble_eq_true rfl) (fun p e s m args below meth c hX => wX11_weight hX M a0 a1 a2 h)
set_option maxHeartbeats 4000000 in
set_option maxRecDepth 100000 in
theorem wX10_isYear {p : Program} {l : Launch} {e : Env} {s : State} {m : MethodId} {args : Array Value} {below : List Frame} {meth : Method} {c : Code} {P : PT}  {r9 : Int32} (hX : Cy p s m args c meth cX10_isYear 1 RX10 "isYear" (some .boolean) P)  (M : Mm) (a0 : Int32) (h : fX10_isYear M a0 = some r9) : Wq p l e s m args below meth c 1 0 (some (.int r9)) M 1 P 0 0 [(0, .int a0)] [] M := by
  unfold fX10_isYear at h
  have hX0 := hX
  obtain ⟨X, hr, hlk, hnm⟩ := hX0
  have hx := X.1.1
  have hb := X.1.2.1
  intro H locs ls hM hl
  refine lv_iload_n (pc := 0) hx hb dX10_isYear_0 rfl (lv_at hl 0 rfl) ?_
  refine lv_iconst (pc := 1) (v := (0 : Int32)) hx hb dX10_isYear_1 (by decide) ?_
  refine lv_bipush (pc := 2) (v := (7 : Int32)) hx hb dX10_isYear_2 (by decide) ?_
  obtain ⟨v2, e1, h⟩ := ob h
  refine bz_callS1 (pc := 4) (As := [.int a0, .int (0 : Int32), .int (7 : Int32)]) (rest := []) X hM hl.1 k_RX10_74 (ctX10_within l e1) rfl rfl ⟨(Nat.le_of_ble_eq_true rfl), (Nat.le_of_ble_eq_true rfl)⟩ (Nat.le_of_ble_eq_true rfl) ⟨(Nat.le_of_ble_eq_true rfl), (Nat.le_of_ble_eq_true rfl)⟩ dX10_isYear_4 (fun H locs hM => ?_)
  obtain ⟨v3, e4, h⟩ := ob h
  obtain rfl := so1 h
  exact bz_zretz (pc := 7) X hM hr hlk e4 dX10_isYear_7 (Nat.le_of_ble_eq_true rfl) (Nat.le_of_ble_eq_true rfl)
theorem ctX10_isYear (l : Launch) {P : PT} {M : Mm} {a0 : Int32} {r9 : Int32} (h : fX10_isYear M a0 = some r9) : Ct l yX10_isYear cX10_isYear 1 (some .boolean) 1 0 P [.int a0] M (some (.int r9)) M :=
  Ct.mk (by decide +kernel) (Nat.le_of_ble_eq_true rfl) (fun p e s m args below meth c hX => wX10_isYear hX M a0 h)
set_option maxHeartbeats 4000000 in
set_option maxRecDepth 100000 in
theorem wjX10_year_17 {p : Program} {l : Launch} {e : Env} {s : State} {m : MethodId} {args : Array Value} {below : List Frame} {meth : Method} {c : Code} {P : PT}  {r9 : Int32} {M9 : Mm} (hX : Cy p s m args c meth cX10_year 3 RX10 "year" (some .int) P)   (M : Mm) (x0 : Nat)  (h : jX10_year_17 M x0 = some (r9, M9)) : Wq p l e s m args below meth c 3 0 (some (.int r9)) M9 3 P 0 17 [(0, .ref (pB P + x0))] [] M := by
  unfold jX10_year_17 at h
  have hX0 := hX
  obtain ⟨X, hr, hlk, hnm⟩ := hX0
  have hx := X.1.1
  have hb := X.1.2.1
  intro H locs ls hM hl
  refine lv_aload_n (pc := 17) hx hb dX10_year_17 rfl (lv_at hl 0 rfl) ?_
  refine lv_iconst (pc := 18) (v := (1 : Int32)) hx hb dX10_year_18 (by decide) ?_
  obtain ⟨v2, M3, e1, h⟩ := ob2 h
  obtain ⟨fs4, hb5⟩ := (rX10_error e1)
  refine bz_callV1 (pc := 19) (As := [.int (1 : Int32)]) (rest := []) X hM hl.1 k_RX10_78 (ctX10_error l e1) rfl hb5 rfl rfl ⟨(Nat.le_of_ble_eq_true rfl), (Nat.le_of_ble_eq_true rfl)⟩ (Nat.le_of_ble_eq_true rfl) ⟨(Nat.le_of_ble_eq_true rfl), (Nat.le_of_ble_eq_true rfl)⟩ dX10_year_19 (fun H locs hM => ?_)
  obtain ⟨rfl, rfl⟩ := so2 h
  exact bz_iret (pc := 22) X hM hr hlk dX10_year_22 (Nat.le_of_ble_eq_true rfl) (Nat.le_of_ble_eq_true rfl)
set_option maxHeartbeats 4000000 in
set_option maxRecDepth 100000 in
theorem wX10_year {p : Program} {l : Launch} {e : Env} {s : State} {m : MethodId} {args : Array Value} {below : List Frame} {meth : Method} {c : Code} {P : PT}  {r9 : Int32} {M9 : Mm} (hX : Cy p s m args c meth cX10_year 3 RX10 "year" (some .int) P)  (M : Mm) (a0 : Nat) (a1 : Int32) (a2 : Int32) (h : fX10_year M a0 a1 a2 = some (r9, M9)) : Wq p l e s m args below meth c 3 0 (some (.int r9)) M9 3 P 0 0 [(0, .ref (pB P + a0)), (1, .int a1), (2, .int a2)] [] M := by
  unfold fX10_year at h
  obtain ⟨_, _, h⟩ := ob h
  have hX0 := hX
  obtain ⟨X, hr, hlk, hnm⟩ := hX0
  have hx := X.1.1
  have hb := X.1.2.1
  intro H locs ls hM hl
  refine lv_iload_n (pc := 0) hx hb dX10_year_0 rfl (lv_at hl 1 rfl) ?_
  obtain ⟨v2, e1, h⟩ := ob h
  refine bz_callS1 (pc := 1) (As := [.int a1]) (rest := []) X hM hl.1 k_RX10_321 (ctX10_isYear l e1) rfl rfl ⟨(Nat.le_of_ble_eq_true rfl), (Nat.le_of_ble_eq_true rfl)⟩ (Nat.le_of_ble_eq_true rfl) ⟨(Nat.le_of_ble_eq_true rfl), (Nat.le_of_ble_eq_true rfl)⟩ dX10_year_1 (fun H locs hM => ?_)
  refine lv_if_eq (pc := 4) (tgt := 17) hx hb dX10_year_4 (by decide) (fun hc => ?_) (fun hc => ?_)
  · have h := if_t hc h
    exact wjX10_year_17 hX _ _ h H locs ls hM (lv_sub hl [0] rfl)
  · have h := if_f hc h
    refine lv_iload_n (pc := 7) hx hb dX10_year_7 rfl (lv_at hl 2 rfl) ?_
    refine lv_iconst (pc := 8) (v := (0 : Int32)) hx hb dX10_year_8 (by decide) ?_
    refine lv_bipush (pc := 9) (v := (99 : Int32)) hx hb dX10_year_9 (by decide) ?_
    obtain ⟨v4, e3, h⟩ := ob h
    refine bz_callS1 (pc := 11) (As := [.int a2, .int (0 : Int32), .int (99 : Int32)]) (rest := []) X hM hl.1 k_RX10_74 (ctX10_within l e3) rfl rfl ⟨(Nat.le_of_ble_eq_true rfl), (Nat.le_of_ble_eq_true rfl)⟩ (Nat.le_of_ble_eq_true rfl) ⟨(Nat.le_of_ble_eq_true rfl), (Nat.le_of_ble_eq_true rfl)⟩ dX10_year_11 (fun H locs hM => ?_)
    refine lv_if_ne (pc := 14) (tgt := 23) hx hb dX10_year_14 (by decide) (fun hc => ?_) (fun hc => ?_)
    · have h := if_f hc h
      refine lv_aload_n (pc := 23) hx hb dX10_year_23 rfl (lv_at hl 0 rfl) ?_
      obtain ⟨q5, e6, h⟩ := ob h
      refine bz_getQ (pc := 24) X hM fl_RX10_10 e6 dX10_year_24 ?_
      obtain ⟨q7, e8, h⟩ := ob h
      refine bz_getQ (pc := 27) X hM fl_RX10_324 e8 dX10_year_27 ?_
      refine lv_iload_n (pc := 30) hx hb dX10_year_30 rfl (lv_at hl 1 rfl) ?_
      refine lv_iload_n (pc := 31) hx hb dX10_year_31 rfl (lv_at hl 2 rfl) ?_
      obtain ⟨v10, M11, e9, h⟩ := ob2 h
      obtain ⟨fs12, hb13⟩ := (rX3_exchange e9)
      refine bz_callV1 (pc := 32) (As := [.int a1, .int a2]) (rest := []) X hM hl.1 k_RX10_85 (ctX3_exchange l e9) rfl hb13 rfl rfl ⟨(Nat.le_of_ble_eq_true rfl), (Nat.le_of_ble_eq_true rfl)⟩ (Nat.le_of_ble_eq_true rfl) ⟨(Nat.le_of_ble_eq_true rfl), (Nat.le_of_ble_eq_true rfl)⟩ dX10_year_32 (fun H locs hM => ?_)
      obtain ⟨rfl, rfl⟩ := so2 h
      exact bz_iret (pc := 35) X hM hr hlk dX10_year_35 (Nat.le_of_ble_eq_true rfl) (Nat.le_of_ble_eq_true rfl)
    · have h := if_t hc h
      exact wjX10_year_17 hX _ _ h H locs ls hM (lv_sub hl [0] rfl)
theorem rX10_year {M : Mm} {a0 : Nat} {a1 : Int32} {a2 : Int32} {r9 : Int32 × Mm} (h : fX10_year M a0 a1 a2 = some r9) : ∃ fs, M[a0]? = some (.inr (10, fs)) := by
  unfold fX10_year at h
  obtain ⟨_, e1, _⟩ := ob h
  exact gC_spec e1
theorem ctX10_year (l : Launch) {P : PT} {M : Mm} {a0 : Nat} {a1 : Int32} {a2 : Int32} {r9 : Int32} {M9 : Mm} (h : fX10_year M a0 a1 a2 = some (r9, M9)) : Ct l yX10_year cX10_year 3 (some .int) 3 0 P [.ref (pB P + a0), .int a1, .int a2] M (some (.int r9)) M9 :=
  Ct.mk (by decide +kernel) (Nat.le_of_ble_eq_true rfl) (fun p e s m args below meth c hX => wX10_year hX M a0 a1 a2 h)
set_option maxHeartbeats 4000000 in
set_option maxRecDepth 100000 in
theorem wX11_isYear {p : Program} {l : Launch} {e : Env} {s : State} {m : MethodId} {args : Array Value} {below : List Frame} {meth : Method} {c : Code} {P : PT}  {r9 : Int32} (hX : Cy p s m args c meth cX11_isYear 1 RX11 "isYear" (some .boolean) P)  (M : Mm) (a0 : Int32) (h : fX11_isYear M a0 = some r9) : Wq p l e s m args below meth c 1 0 (some (.int r9)) M 1 P 0 0 [(0, .int a0)] [] M := by
  unfold fX11_isYear at h
  have hX0 := hX
  obtain ⟨X, hr, hlk, hnm⟩ := hX0
  have hx := X.1.1
  have hb := X.1.2.1
  intro H locs ls hM hl
  refine lv_iload_n (pc := 0) hx hb dX11_isYear_0 rfl (lv_at hl 0 rfl) ?_
  refine lv_i2l (pc := 1) (v := ((a0).toInt64)) hx hb dX11_isYear_1 rfl ?_
  refine lv_lconst (pc := 2) (v := (0 : Int64)) hx hb dX11_isYear_2 (by decide) ?_
  refine lv_ldc2 (pc := 3) (v := (7 : Int64)) hx hb X.1.2.2.2.1 (X.1.2.2.2.2 _ g_1460) dX11_isYear_3 ?_
  obtain ⟨v2, e1, h⟩ := ob h
  refine bz_callS1 (pc := 6) (As := [.long ((a0).toInt64), .long (0 : Int64), .long (7 : Int64)]) (rest := []) X hM hl.1 k_RX11_57 (ctX11_in l e1) rfl rfl ⟨(Nat.le_of_ble_eq_true rfl), (Nat.le_of_ble_eq_true rfl)⟩ (Nat.le_of_ble_eq_true rfl) ⟨(Nat.le_of_ble_eq_true rfl), (Nat.le_of_ble_eq_true rfl)⟩ dX11_isYear_6 (fun H locs hM => ?_)
  obtain ⟨v3, e4, h⟩ := ob h
  obtain rfl := so1 h
  exact bz_zretz (pc := 9) X hM hr hlk e4 dX11_isYear_9 (Nat.le_of_ble_eq_true rfl) (Nat.le_of_ble_eq_true rfl)
theorem ctX11_isYear (l : Launch) {P : PT} {M : Mm} {a0 : Int32} {r9 : Int32} (h : fX11_isYear M a0 = some r9) : Ct l yX11_isYear cX11_isYear 1 (some .boolean) 1 0 P [.int a0] M (some (.int r9)) M :=
  Ct.mk (by decide +kernel) (Nat.le_of_ble_eq_true rfl) (fun p e s m args below meth c hX => wX11_isYear hX M a0 h)
set_option maxHeartbeats 4000000 in
set_option maxRecDepth 100000 in
theorem wjX11_year_19 {p : Program} {l : Launch} {e : Env} {s : State} {m : MethodId} {args : Array Value} {below : List Frame} {meth : Method} {c : Code} {P : PT}  {r9 : Int32} {M9 : Mm} (hX : Cy p s m args c meth cX11_year 4 RX11 "year" (some .int) P)   (M : Mm) (x0 : Nat)  (h : jX11_year_19 M x0 = some (r9, M9)) : Wq p l e s m args below meth c 2 0 (some (.int r9)) M9 4 P 0 19 [(0, .ref (pB P + x0))] [] M := by
  unfold jX11_year_19 at h
  have hX0 := hX
  obtain ⟨X, hr, hlk, hnm⟩ := hX0
  have hx := X.1.1
  have hb := X.1.2.1
  intro H locs ls hM hl
  refine lv_aload_n (pc := 19) hx hb dX11_year_19 rfl (lv_at hl 0 rfl) ?_
  refine lv_iconst (pc := 20) (v := (1 : Int32)) hx hb dX11_year_20 (by decide) ?_
  obtain ⟨v2, M3, e1, h⟩ := ob2 h
  obtain ⟨fs4, hb5⟩ := (rX11_error e1)
  refine bz_callV1 (pc := 21) (As := [.int (1 : Int32)]) (rest := []) X hM hl.1 k_RX11_73 (ctX11_error l e1) rfl hb5 rfl rfl ⟨(Nat.le_of_ble_eq_true rfl), (Nat.le_of_ble_eq_true rfl)⟩ (Nat.le_of_ble_eq_true rfl) ⟨(Nat.le_of_ble_eq_true rfl), (Nat.le_of_ble_eq_true rfl)⟩ dX11_year_21 (fun H locs hM => ?_)
  obtain ⟨rfl, rfl⟩ := so2 h
  exact bz_iret (pc := 24) X hM hr hlk dX11_year_24 (Nat.le_of_ble_eq_true rfl) (Nat.le_of_ble_eq_true rfl)
set_option maxHeartbeats 4000000 in
set_option maxRecDepth 100000 in
theorem wX11_year {p : Program} {l : Launch} {e : Env} {s : State} {m : MethodId} {args : Array Value} {below : List Frame} {meth : Method} {c : Code} {P : PT}  {r9 : Int32} {M9 : Mm} (hX : Cy p s m args c meth cX11_year 4 RX11 "year" (some .int) P)  (M : Mm) (a0 : Nat) (a1 : Int32) (a2 : Int32) (h : fX11_year M a0 a1 a2 = some (r9, M9)) : Wq p l e s m args below meth c 2 0 (some (.int r9)) M9 4 P 0 0 [(0, .ref (pB P + a0)), (1, .int a1), (2, .int a2)] [] M := by
  unfold fX11_year at h
  obtain ⟨_, _, h⟩ := ob h
  have hX0 := hX
  obtain ⟨X, hr, hlk, hnm⟩ := hX0
  have hx := X.1.1
  have hb := X.1.2.1
  intro H locs ls hM hl
  refine lv_iload_n (pc := 0) hx hb dX11_year_0 rfl (lv_at hl 1 rfl) ?_
  obtain ⟨v2, e1, h⟩ := ob h
  refine bz_callS1 (pc := 1) (As := [.int a1]) (rest := []) X hM hl.1 k_RX11_296 (ctX11_isYear l e1) rfl rfl ⟨(Nat.le_of_ble_eq_true rfl), (Nat.le_of_ble_eq_true rfl)⟩ (Nat.le_of_ble_eq_true rfl) ⟨(Nat.le_of_ble_eq_true rfl), (Nat.le_of_ble_eq_true rfl)⟩ dX11_year_1 (fun H locs hM => ?_)
  refine lv_if_eq (pc := 4) (tgt := 19) hx hb dX11_year_4 (by decide) (fun hc => ?_) (fun hc => ?_)
  · have h := if_t hc h
    exact wjX11_year_19 hX _ _ h H locs ls hM (lv_sub hl [0] rfl)
  · have h := if_f hc h
    refine lv_iload_n (pc := 7) hx hb dX11_year_7 rfl (lv_at hl 2 rfl) ?_
    refine lv_i2l (pc := 8) (v := ((a2).toInt64)) hx hb dX11_year_8 rfl ?_
    refine lv_lconst (pc := 9) (v := (0 : Int64)) hx hb dX11_year_9 (by decide) ?_
    refine lv_ldc2 (pc := 10) (v := (99 : Int64)) hx hb X.1.2.2.2.1 (X.1.2.2.2.2 _ g_1602) dX11_year_10 ?_
    obtain ⟨v4, e3, h⟩ := ob h
    refine bz_callS1 (pc := 13) (As := [.long ((a2).toInt64), .long (0 : Int64), .long (99 : Int64)]) (rest := []) X hM hl.1 k_RX11_57 (ctX11_in l e3) rfl rfl ⟨(Nat.le_of_ble_eq_true rfl), (Nat.le_of_ble_eq_true rfl)⟩ (Nat.le_of_ble_eq_true rfl) ⟨(Nat.le_of_ble_eq_true rfl), (Nat.le_of_ble_eq_true rfl)⟩ dX11_year_13 (fun H locs hM => ?_)
    refine lv_if_ne (pc := 16) (tgt := 25) hx hb dX11_year_16 (by decide) (fun hc => ?_) (fun hc => ?_)
    · have h := if_f hc h
      refine lv_aload_n (pc := 25) hx hb dX11_year_25 rfl (lv_at hl 0 rfl) ?_
      obtain ⟨q5, e6, h⟩ := ob h
      refine bz_getQ (pc := 26) X hM fl_RX11_9 e6 dX11_year_26 ?_
      refine lv_sipush (pc := 29) (v := (404 : Int32)) hx hb dX11_year_29 (by decide) ?_
      refine lv_iload_n (pc := 32) hx hb dX11_year_32 rfl (lv_at hl 1 rfl) ?_
      refine lv_iadd (pc := 33) hx hb dX11_year_33 ?_
      obtain ⟨v7, e8, h⟩ := ob h
      refine bz_iald (pc := 34) X hM e8 dX11_year_34 ?_
      refine lv_istore_n (pc := 35) (lv' := [(3, .int v7), (0, .ref (pB P + a0)), (1, .int a1), (2, .int a2)]) hx hb dX11_year_35 rfl hl (by decide) rfl (fun ls hl => ?_)
      refine lv_aload_n (pc := 36) hx hb dX11_year_36 rfl (lv_at hl 1 rfl) ?_
      obtain ⟨q9, e10, h⟩ := ob h
      refine bz_getQ (pc := 37) X hM fl_RX11_9 e10 dX11_year_37 ?_
      refine lv_sipush (pc := 40) (v := (404 : Int32)) hx hb dX11_year_40 (by decide) ?_
      refine lv_iload_n (pc := 43) hx hb dX11_year_43 rfl (lv_at hl 2 rfl) ?_
      refine lv_iadd (pc := 44) hx hb dX11_year_44 ?_
      refine lv_iload_n (pc := 45) hx hb dX11_year_45 rfl (lv_at hl 3 rfl) ?_
      obtain ⟨M11, e12, h⟩ := ob h
      refine bz_iast (pc := 46) X hM e12 dX11_year_46 (fun H locs hM => ?_)
      refine lv_iload_n (pc := 47) hx hb dX11_year_47 rfl (lv_at hl 0 rfl) ?_
      obtain ⟨rfl, rfl⟩ := so2 h
      exact bz_iret (pc := 48) X hM hr hlk dX11_year_48 (Nat.le_of_ble_eq_true rfl) (Nat.le_of_ble_eq_true rfl)
    · have h := if_t hc h
      exact wjX11_year_19 hX _ _ h H locs ls hM (lv_sub hl [0] rfl)
theorem rX11_year {M : Mm} {a0 : Nat} {a1 : Int32} {a2 : Int32} {r9 : Int32 × Mm} (h : fX11_year M a0 a1 a2 = some r9) : ∃ fs, M[a0]? = some (.inr (11, fs)) := by
  unfold fX11_year at h
  obtain ⟨_, e1, _⟩ := ob h
  exact gC_spec e1
theorem ctX11_year (l : Launch) {P : PT} {M : Mm} {a0 : Nat} {a1 : Int32} {a2 : Int32} {r9 : Int32} {M9 : Mm} (h : fX11_year M a0 a1 a2 = some (r9, M9)) : Ct l yX11_year cX11_year 4 (some .int) 2 0 P [.ref (pB P + a0), .int a1, .int a2] M (some (.int r9)) M9 :=
  Ct.mk (by decide +kernel) (Nat.le_of_ble_eq_true rfl) (fun p e s m args below meth c hX => wX11_year hX M a0 a1 a2 h)
set_option maxHeartbeats 4000000 in
set_option maxRecDepth 100000 in
theorem wBX6_shareOf_13 {p : Program} {l : Launch} {e : Env} {s : State} {m : MethodId} {args : Array Value} {below : List Frame} {meth : Method} {c : Code} {P : PT} {N : Nat} {K13 : Mm → Nat → Int32 → Int32 → Int64 → Int32 → Option (Int64 × Mm)}  {r9 : Int64} {M9 : Mm} (hX : Cy p s m args c meth cX6_shareOf 6 RX6 "shareOf" (some .long) P)  (hK13 : ∀ (M : Mm) (x0 : Nat) (x1 : Int32) (x2 : Int32) (x3 : Int64) (x5 : Int32), K13 M x0 x1 x2 x3 x5 = some (r9, M9) → Wq p l e s m args below meth c 4 0 (some (.long r9)) M9 6 P 0 13 [(0, .ref (pB P + x0)), (1, .int x1), (2, .int x2), (3, .long x3), (5, .int x5)] [] M) (M : Mm) (x0 : Nat) (x1 : Int32) (x2 : Int32) (x3 : Int64) (x5 : Int32)  (h : BX6_shareOf_13 N K13 M x0 x1 x2 x3 x5 = some (r9, M9)) : Wq p l e s m args below meth c 4 0 (some (.long r9)) M9 6 P 0 13 [(0, .ref (pB P + x0)), (1, .int x1), (2, .int x2), (3, .long x3), (5, .int x5)] [] M := by
  unfold BX6_shareOf_13 at h
  have hX0 := hX
  obtain ⟨X, hr, hlk, hnm⟩ := hX0
  have hx := X.1.1
  have hb := X.1.2.1
  intro H locs ls hM hl
  refine lv_iload (pc := 13) hx hb dX6_shareOf_13 (lv_at hl 4 rfl) ?_
  refine lv_iload_n (pc := 15) hx hb dX6_shareOf_15 rfl (lv_at hl 2 rfl) ?_
  refine lv_icmp_gt (pc := 16) (tgt := 52) hx hb dX6_shareOf_16 (by decide) (fun hc => ?_) (fun hc => ?_)
  · have h := if_t hc h
    refine lv_lload_n (pc := 52) hx hb dX6_shareOf_52 rfl (lv_at hl 3 rfl) ?_
    obtain ⟨rfl, rfl⟩ := so2 h
    exact bz_lret (pc := 53) X hM hr hlk dX6_shareOf_53 (Nat.le_of_ble_eq_true rfl) (Nat.le_of_ble_eq_true rfl)
  · have h := if_f hc h
    refine lv_iload (pc := 19) hx hb dX6_shareOf_19 (lv_at hl 4 rfl) ?_
    refine lv_bipush (pc := 21) (v := (8 : Int32)) hx hb dX6_shareOf_21 (by decide) ?_
    refine lv_icmp_ge (pc := 23) (tgt := 52) hx hb dX6_shareOf_23 (by decide) (fun hc => ?_) (fun hc => ?_)
    · have h := if_t hc h
      refine lv_lload_n (pc := 52) hx hb dX6_shareOf_52 rfl (lv_at hl 3 rfl) ?_
      obtain ⟨rfl, rfl⟩ := so2 h
      exact bz_lret (pc := 53) X hM hr hlk dX6_shareOf_53 (Nat.le_of_ble_eq_true rfl) (Nat.le_of_ble_eq_true rfl)
    · have h := if_f hc h
      refine lv_lload_n (pc := 26) hx hb dX6_shareOf_26 rfl (lv_at hl 3 rfl) ?_
      refine lv_aload_n (pc := 27) hx hb dX6_shareOf_27 rfl (lv_at hl 0 rfl) ?_
      refine lv_iload_n (pc := 28) hx hb dX6_shareOf_28 rfl (lv_at hl 1 rfl) ?_
      refine lv_aload_n (pc := 29) hx hb dX6_shareOf_29 rfl (lv_at hl 0 rfl) ?_
      obtain ⟨q1, e2, h⟩ := ob h
      refine bz_getQ (pc := 30) X hM fl_RX6_56 e2 dX6_shareOf_30 ?_
      refine lv_iload (pc := 33) hx hb dX6_shareOf_33 (lv_at hl 4 rfl) ?_
      obtain ⟨v4, e3, h⟩ := ob h
      obtain ⟨fs5, hb6⟩ := (rX3_at e3)
      refine bz_callV1 (pc := 35) (As := [.int x5]) (rest := [.int x1, .ref (pB P + x0), .long x3]) X hM hl.1 k_RX6_91 (ctX3_at l e3) rfl hb6 rfl rfl ⟨(Nat.le_of_ble_eq_true rfl), (Nat.le_of_ble_eq_true rfl)⟩ (Nat.le_of_ble_eq_true rfl) ⟨(Nat.le_of_ble_eq_true rfl), (Nat.le_of_ble_eq_true rfl)⟩ dX6_shareOf_35 (fun H locs hM => ?_)
      refine lv_iload (pc := 38) hx hb dX6_shareOf_38 (lv_at hl 4 rfl) ?_
      obtain ⟨v8, M9, e7, h⟩ := ob2 h
      obtain ⟨fs10, hb11⟩ := (rX6_lawGives e7)
      refine bz_callV1 (pc := 40) (As := [.int x1, .int v4, .int x5]) (rest := [.long x3]) X hM hl.1 k_RX6_115 (ctX6_lawGives l e7) rfl hb11 rfl rfl ⟨(Nat.le_of_ble_eq_true rfl), (Nat.le_of_ble_eq_true rfl)⟩ (Nat.le_of_ble_eq_true rfl) ⟨(Nat.le_of_ble_eq_true rfl), (Nat.le_of_ble_eq_true rfl)⟩ dX6_shareOf_40 (fun H locs hM => ?_)
      refine lv_i2l (pc := 43) (v := ((v8).toInt64)) hx hb dX6_shareOf_43 rfl ?_
      refine lv_lmul (pc := 44) hx hb dX6_shareOf_44 ?_
      refine lv_lstore_n (pc := 45) (lv' := [(3, .long (x3 * ((v8).toInt64))), (0, .ref (pB P + x0)), (1, .int x1), (2, .int x2), (5, .int x5)]) hx hb dX6_shareOf_45 rfl hl (by decide) rfl (fun ls hl => ?_)
      refine lv_iinc (pc := 46) (v := (x5 + (1 : Int32))) (lv' := [(5, .int (x5 + (1 : Int32))), (3, .long (x3 * ((v8).toInt64))), (0, .ref (pB P + x0)), (1, .int x1), (2, .int x2)]) hx hb dX6_shareOf_46 hl (k := 4) rfl rfl (by decide) rfl (fun ls hl => ?_)
      refine lv_goto (pc := 49) (tgt := 13) hx hb dX6_shareOf_49 (by decide) ?_
      exact hK13 _ _ _ _ _ _ h H locs ls hM (lv_sub hl [2, 3, 4, 1, 0] rfl)
set_option maxHeartbeats 4000000 in
set_option maxRecDepth 100000 in
theorem wLX6_shareOf_13 {p : Program} {l : Launch} {e : Env} {s : State} {m : MethodId} {args : Array Value} {below : List Frame} {meth : Method} {c : Code} {P : PT} {N : Nat}  {r9 : Int64} {M9 : Mm} (hX : Cy p s m args c meth cX6_shareOf 6 RX6 "shareOf" (some .long) P)   : ∀ (n : Nat) (M : Mm) (x0 : Nat) (x1 : Int32) (x2 : Int32) (x3 : Int64) (x5 : Int32) , LX6_shareOf_13 N n M x0 x1 x2 x3 x5 = some (r9, M9) → Wq p l e s m args below meth c 4 0 (some (.long r9)) M9 6 P 0 13 [(0, .ref (pB P + x0)), (1, .int x1), (2, .int x2), (3, .long x3), (5, .int x5)] [] M := by
  intro n
  induction n with
  | zero => intro M x0 x1 x2 x3 x5 h; cases h
  | succ n ih => intro M x0 x1 x2 x3 x5 h; exact wBX6_shareOf_13 hX ih M x0 x1 x2 x3 x5 h
set_option maxHeartbeats 4000000 in
set_option maxRecDepth 100000 in
theorem wX6_shareOf {p : Program} {l : Launch} {e : Env} {s : State} {m : MethodId} {args : Array Value} {below : List Frame} {meth : Method} {c : Code} {P : PT} {N : Nat}  {r9 : Int64} {M9 : Mm} (hX : Cy p s m args c meth cX6_shareOf 6 RX6 "shareOf" (some .long) P)  (M : Mm) (a0 : Nat) (a1 : Int32) (a2 : Int32) (h : fX6_shareOf N M a0 a1 a2 = some (r9, M9)) : Wq p l e s m args below meth c 4 0 (some (.long r9)) M9 6 P 0 0 [(0, .ref (pB P + a0)), (1, .int a1), (2, .int a2)] [] M := by
  unfold fX6_shareOf at h
  obtain ⟨_, _, h⟩ := ob h
  have hX0 := hX
  obtain ⟨X, hr, hlk, hnm⟩ := hX0
  have hx := X.1.1
  have hb := X.1.2.1
  intro H locs ls hM hl
  refine lv_aload_n (pc := 0) hx hb dX6_shareOf_0 rfl (lv_at hl 0 rfl) ?_
  obtain ⟨q1, e2, h⟩ := ob h
  refine bz_getQ (pc := 1) X hM fl_RX6_53 e2 dX6_shareOf_1 ?_
  refine lv_iload_n (pc := 4) hx hb dX6_shareOf_4 rfl (lv_at hl 1 rfl) ?_
  obtain ⟨v4, e3, h⟩ := ob h
  obtain ⟨fs5, hb6⟩ := (rX3_at e3)
  refine bz_callV1 (pc := 5) (As := [.int a1]) (rest := []) X hM hl.1 k_RX6_91 (ctX3_at l e3) rfl hb6 rfl rfl ⟨(Nat.le_of_ble_eq_true rfl), (Nat.le_of_ble_eq_true rfl)⟩ (Nat.le_of_ble_eq_true rfl) ⟨(Nat.le_of_ble_eq_true rfl), (Nat.le_of_ble_eq_true rfl)⟩ dX6_shareOf_5 (fun H locs hM => ?_)
  refine lv_i2l (pc := 8) (v := ((v4).toInt64)) hx hb dX6_shareOf_8 rfl ?_
  refine lv_lstore_n (pc := 9) (lv' := [(3, .long ((v4).toInt64)), (0, .ref (pB P + a0)), (1, .int a1), (2, .int a2)]) hx hb dX6_shareOf_9 rfl hl (by decide) rfl (fun ls hl => ?_)
  refine lv_iconst (pc := 10) (v := (0 : Int32)) hx hb dX6_shareOf_10 (by decide) ?_
  refine lv_istore (pc := 11) (lv' := [(5, .int (0 : Int32)), (3, .long ((v4).toInt64)), (0, .ref (pB P + a0)), (1, .int a1), (2, .int a2)]) hx hb dX6_shareOf_11 hl (by decide) rfl (fun ls hl => ?_)
  exact wLX6_shareOf_13 hX _ _ _ _ _ _ _ h H locs ls hM (lv_sub hl [2, 3, 4, 1, 0] rfl)
theorem rX6_shareOf {N : Nat} {M : Mm} {a0 : Nat} {a1 : Int32} {a2 : Int32} {r9 : Int64 × Mm} (h : fX6_shareOf N M a0 a1 a2 = some r9) : ∃ fs, M[a0]? = some (.inr (6, fs)) := by
  unfold fX6_shareOf at h
  obtain ⟨_, e1, _⟩ := ob h
  exact gC_spec e1
theorem ctX6_shareOf (l : Launch) {P : PT} {N : Nat} {M : Mm} {a0 : Nat} {a1 : Int32} {a2 : Int32} {r9 : Int64} {M9 : Mm} (h : fX6_shareOf N M a0 a1 a2 = some (r9, M9)) : Ct l yX6_shareOf cX6_shareOf 6 (some .long) 4 0 P [.ref (pB P + a0), .int a1, .int a2] M (some (.long r9)) M9 :=
  Ct.mk (by decide +kernel) (Nat.le_of_ble_eq_true rfl) (fun p e s m args below meth c hX => wX6_shareOf hX M a0 a1 a2 h)
set_option maxHeartbeats 4000000 in
set_option maxRecDepth 100000 in
theorem wBX6_sharesTogether_5 {p : Program} {l : Launch} {e : Env} {s : State} {m : MethodId} {args : Array Value} {below : List Frame} {meth : Method} {c : Code} {P : PT} {N : Nat} {K5 : Mm → Nat → Int32 → Int64 → Int32 → Option (Int64 × Mm)}  {r9 : Int64} {M9 : Mm} (hX : Cy p s m args c meth cX6_sharesTogether 5 RX6 "sharesTogether" (some .long) P)  (hK5 : ∀ (M : Mm) (x0 : Nat) (x1 : Int32) (x2 : Int64) (x4 : Int32), K5 M x0 x1 x2 x4 = some (r9, M9) → Wq p l e s m args below meth c 5 0 (some (.long r9)) M9 5 P 0 5 [(0, .ref (pB P + x0)), (1, .int x1), (2, .long x2), (4, .int x4)] [] M) (M : Mm) (x0 : Nat) (x1 : Int32) (x2 : Int64) (x4 : Int32)  (h : BX6_sharesTogether_5 N K5 M x0 x1 x2 x4 = some (r9, M9)) : Wq p l e s m args below meth c 5 0 (some (.long r9)) M9 5 P 0 5 [(0, .ref (pB P + x0)), (1, .int x1), (2, .long x2), (4, .int x4)] [] M := by
  unfold BX6_sharesTogether_5 at h
  have hX0 := hX
  obtain ⟨X, hr, hlk, hnm⟩ := hX0
  have hx := X.1.1
  have hb := X.1.2.1
  intro H locs ls hM hl
  refine lv_iload (pc := 5) hx hb dX6_sharesTogether_5 (lv_at hl 3 rfl) ?_
  refine lv_bipush (pc := 7) (v := (6 : Int32)) hx hb dX6_sharesTogether_7 (by decide) ?_
  refine lv_icmp_ge (pc := 9) (tgt := 28) hx hb dX6_sharesTogether_9 (by decide) (fun hc => ?_) (fun hc => ?_)
  · have h := if_t hc h
    refine lv_lload_n (pc := 28) hx hb dX6_sharesTogether_28 rfl (lv_at hl 2 rfl) ?_
    obtain ⟨rfl, rfl⟩ := so2 h
    exact bz_lret (pc := 29) X hM hr hlk dX6_sharesTogether_29 (Nat.le_of_ble_eq_true rfl) (Nat.le_of_ble_eq_true rfl)
  · have h := if_f hc h
    refine lv_lload_n (pc := 12) hx hb dX6_sharesTogether_12 rfl (lv_at hl 2 rfl) ?_
    refine lv_aload_n (pc := 13) hx hb dX6_sharesTogether_13 rfl (lv_at hl 0 rfl) ?_
    refine lv_iload (pc := 14) hx hb dX6_sharesTogether_14 (lv_at hl 3 rfl) ?_
    refine lv_iload_n (pc := 16) hx hb dX6_sharesTogether_16 rfl (lv_at hl 1 rfl) ?_
    obtain ⟨v2, M3, e1, h⟩ := ob2 h
    obtain ⟨fs4, hb5⟩ := (rX6_shareOf e1)
    refine bz_callV1 (pc := 17) (As := [.int x4, .int x1]) (rest := [.long x2]) X hM hl.1 k_RX6_119 (ctX6_shareOf l e1) rfl hb5 rfl rfl ⟨(Nat.le_of_ble_eq_true rfl), (Nat.le_of_ble_eq_true rfl)⟩ (Nat.le_of_ble_eq_true rfl) ⟨(Nat.le_of_ble_eq_true rfl), (Nat.le_of_ble_eq_true rfl)⟩ dX6_sharesTogether_17 (fun H locs hM => ?_)
    refine lv_ladd (pc := 20) hx hb dX6_sharesTogether_20 ?_
    refine lv_lstore_n (pc := 21) (lv' := [(2, .long (x2 + v2)), (0, .ref (pB P + x0)), (1, .int x1), (4, .int x4)]) hx hb dX6_sharesTogether_21 rfl hl (by decide) rfl (fun ls hl => ?_)
    refine lv_iinc (pc := 22) (v := (x4 + (1 : Int32))) (lv' := [(4, .int (x4 + (1 : Int32))), (2, .long (x2 + v2)), (0, .ref (pB P + x0)), (1, .int x1)]) hx hb dX6_sharesTogether_22 hl (k := 3) rfl rfl (by decide) rfl (fun ls hl => ?_)
    refine lv_goto (pc := 25) (tgt := 5) hx hb dX6_sharesTogether_25 (by decide) ?_
    exact hK5 _ _ _ _ _ h H locs ls hM (lv_sub hl [2, 3, 1, 0] rfl)
set_option maxHeartbeats 4000000 in
set_option maxRecDepth 100000 in
theorem wLX6_sharesTogether_5 {p : Program} {l : Launch} {e : Env} {s : State} {m : MethodId} {args : Array Value} {below : List Frame} {meth : Method} {c : Code} {P : PT} {N : Nat}  {r9 : Int64} {M9 : Mm} (hX : Cy p s m args c meth cX6_sharesTogether 5 RX6 "sharesTogether" (some .long) P)   : ∀ (n : Nat) (M : Mm) (x0 : Nat) (x1 : Int32) (x2 : Int64) (x4 : Int32) , LX6_sharesTogether_5 N n M x0 x1 x2 x4 = some (r9, M9) → Wq p l e s m args below meth c 5 0 (some (.long r9)) M9 5 P 0 5 [(0, .ref (pB P + x0)), (1, .int x1), (2, .long x2), (4, .int x4)] [] M := by
  intro n
  induction n with
  | zero => intro M x0 x1 x2 x4 h; cases h
  | succ n ih => intro M x0 x1 x2 x4 h; exact wBX6_sharesTogether_5 hX ih M x0 x1 x2 x4 h
set_option maxHeartbeats 4000000 in
set_option maxRecDepth 100000 in
theorem wX6_sharesTogether {p : Program} {l : Launch} {e : Env} {s : State} {m : MethodId} {args : Array Value} {below : List Frame} {meth : Method} {c : Code} {P : PT} {N : Nat}  {r9 : Int64} {M9 : Mm} (hX : Cy p s m args c meth cX6_sharesTogether 5 RX6 "sharesTogether" (some .long) P)  (M : Mm) (a0 : Nat) (a1 : Int32) (h : fX6_sharesTogether N M a0 a1 = some (r9, M9)) : Wq p l e s m args below meth c 5 0 (some (.long r9)) M9 5 P 0 0 [(0, .ref (pB P + a0)), (1, .int a1)] [] M := by
  unfold fX6_sharesTogether at h
  obtain ⟨_, _, h⟩ := ob h
  have hX0 := hX
  obtain ⟨X, hr, hlk, hnm⟩ := hX0
  have hx := X.1.1
  have hb := X.1.2.1
  intro H locs ls hM hl
  refine lv_lconst (pc := 0) (v := (0 : Int64)) hx hb dX6_sharesTogether_0 (by decide) ?_
  refine lv_lstore_n (pc := 1) (lv' := [(2, .long (0 : Int64)), (0, .ref (pB P + a0)), (1, .int a1)]) hx hb dX6_sharesTogether_1 rfl hl (by decide) rfl (fun ls hl => ?_)
  refine lv_iconst (pc := 2) (v := (0 : Int32)) hx hb dX6_sharesTogether_2 (by decide) ?_
  refine lv_istore (pc := 3) (lv' := [(4, .int (0 : Int32)), (2, .long (0 : Int64)), (0, .ref (pB P + a0)), (1, .int a1)]) hx hb dX6_sharesTogether_3 hl (by decide) rfl (fun ls hl => ?_)
  exact wLX6_sharesTogether_5 hX _ _ _ _ _ _ h H locs ls hM (lv_sub hl [2, 3, 1, 0] rfl)
theorem rX6_sharesTogether {N : Nat} {M : Mm} {a0 : Nat} {a1 : Int32} {r9 : Int64 × Mm} (h : fX6_sharesTogether N M a0 a1 = some r9) : ∃ fs, M[a0]? = some (.inr (6, fs)) := by
  unfold fX6_sharesTogether at h
  obtain ⟨_, e1, _⟩ := ob h
  exact gC_spec e1
theorem ctX6_sharesTogether (l : Launch) {P : PT} {N : Nat} {M : Mm} {a0 : Nat} {a1 : Int32} {r9 : Int64} {M9 : Mm} (h : fX6_sharesTogether N M a0 a1 = some (r9, M9)) : Ct l yX6_sharesTogether cX6_sharesTogether 5 (some .long) 5 0 P [.ref (pB P + a0), .int a1] M (some (.long r9)) M9 :=
  Ct.mk (by decide +kernel) (Nat.le_of_ble_eq_true rfl) (fun p e s m args below meth c hX => wX6_sharesTogether hX M a0 a1 h)
set_option maxHeartbeats 4000000 in
set_option maxRecDepth 100000 in
theorem wjX10_all_21 {p : Program} {l : Launch} {e : Env} {s : State} {m : MethodId} {args : Array Value} {below : List Frame} {meth : Method} {c : Code} {P : PT} {N : Nat}  {r9 : Int64} {M9 : Mm} (hX : Cy p s m args c meth cX10_all 4 RX10 "all" (some .long) P)   (M : Mm) (x0 : Nat)  (h : jX10_all_21 N M x0 = some (r9, M9)) : Wq p l e s m args below meth c 6 0 (some (.long r9)) M9 4 P 0 21 [(0, .ref (pB P + x0))] [] M := by
  unfold jX10_all_21 at h
  have hX0 := hX
  obtain ⟨X, hr, hlk, hnm⟩ := hX0
  have hx := X.1.1
  have hb := X.1.2.1
  intro H locs ls hM hl
  refine lv_aload_n (pc := 21) hx hb dX10_all_21 rfl (lv_at hl 0 rfl) ?_
  refine lv_iconst (pc := 22) (v := (1 : Int32)) hx hb dX10_all_22 (by decide) ?_
  obtain ⟨v2, M3, e1, h⟩ := ob2 h
  obtain ⟨fs4, hb5⟩ := (rX10_error e1)
  refine bz_callV1 (pc := 23) (As := [.int (1 : Int32)]) (rest := []) X hM hl.1 k_RX10_78 (ctX10_error l e1) rfl hb5 rfl rfl ⟨(Nat.le_of_ble_eq_true rfl), (Nat.le_of_ble_eq_true rfl)⟩ (Nat.le_of_ble_eq_true rfl) ⟨(Nat.le_of_ble_eq_true rfl), (Nat.le_of_ble_eq_true rfl)⟩ dX10_all_23 (fun H locs hM => ?_)
  refine lv_i2l (pc := 26) (v := ((v2).toInt64)) hx hb dX10_all_26 rfl ?_
  obtain ⟨rfl, rfl⟩ := so2 h
  exact bz_lret (pc := 27) X hM hr hlk dX10_all_27 (Nat.le_of_ble_eq_true rfl) (Nat.le_of_ble_eq_true rfl)
set_option maxHeartbeats 4000000 in
set_option maxRecDepth 100000 in
theorem wX10_all {p : Program} {l : Launch} {e : Env} {s : State} {m : MethodId} {args : Array Value} {below : List Frame} {meth : Method} {c : Code} {P : PT} {N : Nat}  {r9 : Int64} {M9 : Mm} (hX : Cy p s m args c meth cX10_all 4 RX10 "all" (some .long) P)  (M : Mm) (a0 : Nat) (a1 : Int32) (a2 : Int32) (a3 : Int32) (h : fX10_all N M a0 a1 a2 a3 = some (r9, M9)) : Wq p l e s m args below meth c 6 0 (some (.long r9)) M9 4 P 0 0 [(0, .ref (pB P + a0)), (1, .int a1), (2, .int a2), (3, .int a3)] [] M := by
  unfold fX10_all at h
  obtain ⟨_, _, h⟩ := ob h
  have hX0 := hX
  obtain ⟨X, hr, hlk, hnm⟩ := hX0
  have hx := X.1.1
  have hb := X.1.2.1
  intro H locs ls hM hl
  refine lv_iload_n (pc := 0) hx hb dX10_all_0 rfl (lv_at hl 1 rfl) ?_
  obtain ⟨v2, e1, h⟩ := ob h
  refine bz_callS1 (pc := 1) (As := [.int a1]) (rest := []) X hM hl.1 k_RX10_204 (ctX10_isLaw l e1) rfl rfl ⟨(Nat.le_of_ble_eq_true rfl), (Nat.le_of_ble_eq_true rfl)⟩ (Nat.le_of_ble_eq_true rfl) ⟨(Nat.le_of_ble_eq_true rfl), (Nat.le_of_ble_eq_true rfl)⟩ dX10_all_1 (fun H locs hM => ?_)
  refine lv_if_eq (pc := 4) (tgt := 21) hx hb dX10_all_4 (by decide) (fun hc => ?_) (fun hc => ?_)
  · have h := if_t hc h
    exact wjX10_all_21 hX _ _ h H locs ls hM (lv_sub hl [0] rfl)
  · have h := if_f hc h
    refine lv_iload_n (pc := 7) hx hb dX10_all_7 rfl (lv_at hl 2 rfl) ?_
    obtain ⟨v4, e3, h⟩ := ob h
    refine bz_callS1 (pc := 8) (As := [.int a2]) (rest := []) X hM hl.1 k_RX10_321 (ctX10_isYear l e3) rfl rfl ⟨(Nat.le_of_ble_eq_true rfl), (Nat.le_of_ble_eq_true rfl)⟩ (Nat.le_of_ble_eq_true rfl) ⟨(Nat.le_of_ble_eq_true rfl), (Nat.le_of_ble_eq_true rfl)⟩ dX10_all_8 (fun H locs hM => ?_)
    refine lv_if_eq (pc := 11) (tgt := 21) hx hb dX10_all_11 (by decide) (fun hc => ?_) (fun hc => ?_)
    · have h := if_t hc h
      exact wjX10_all_21 hX _ _ h H locs ls hM (lv_sub hl [0] rfl)
    · have h := if_f hc h
      refine lv_iload_n (pc := 14) hx hb dX10_all_14 rfl (lv_at hl 3 rfl) ?_
      obtain ⟨v6, e5, h⟩ := ob h
      refine bz_callS1 (pc := 15) (As := [.int a3]) (rest := []) X hM hl.1 k_RX10_263 (ctX10_isPart l e5) rfl rfl ⟨(Nat.le_of_ble_eq_true rfl), (Nat.le_of_ble_eq_true rfl)⟩ (Nat.le_of_ble_eq_true rfl) ⟨(Nat.le_of_ble_eq_true rfl), (Nat.le_of_ble_eq_true rfl)⟩ dX10_all_15 (fun H locs hM => ?_)
      refine lv_if_ne (pc := 18) (tgt := 28) hx hb dX10_all_18 (by decide) (fun hc => ?_) (fun hc => ?_)
      · have h := if_f hc h
        refine lv_aload_n (pc := 28) hx hb dX10_all_28 rfl (lv_at hl 0 rfl) ?_
        obtain ⟨q7, e8, h⟩ := ob h
        refine bz_getQ (pc := 29) X hM fl_RX10_10 e8 dX10_all_29 ?_
        refine lv_iload_n (pc := 32) hx hb dX10_all_32 rfl (lv_at hl 1 rfl) ?_
        refine lv_iload_n (pc := 33) hx hb dX10_all_33 rfl (lv_at hl 2 rfl) ?_
        obtain ⟨v10, M11, e9, h⟩ := ob2 h
        obtain ⟨fs12, hb13⟩ := (rX6_shareOf e9)
        refine bz_callV1 (pc := 34) (As := [.int a1, .int a2]) (rest := []) X hM hl.1 k_RX10_327 (ctX6_shareOf l e9) rfl hb13 rfl rfl ⟨(Nat.le_of_ble_eq_true rfl), (Nat.le_of_ble_eq_true rfl)⟩ (Nat.le_of_ble_eq_true rfl) ⟨(Nat.le_of_ble_eq_true rfl), (Nat.le_of_ble_eq_true rfl)⟩ dX10_all_34 (fun H locs hM => ?_)
        refine lv_aload_n (pc := 37) hx hb dX10_all_37 rfl (lv_at hl 0 rfl) ?_
        obtain ⟨q14, e15, h⟩ := ob h
        refine bz_getQ (pc := 38) X hM fl_RX10_10 e15 dX10_all_38 ?_
        refine lv_iload_n (pc := 41) hx hb dX10_all_41 rfl (lv_at hl 2 rfl) ?_
        obtain ⟨v17, M18, e16, h⟩ := ob2 h
        obtain ⟨fs19, hb20⟩ := (rX6_sharesTogether e16)
        refine bz_callV1 (pc := 42) (As := [.int a2]) (rest := [.long v10]) X hM hl.1 k_RX10_331 (ctX6_sharesTogether l e16) rfl hb20 rfl rfl ⟨(Nat.le_of_ble_eq_true rfl), (Nat.le_of_ble_eq_true rfl)⟩ (Nat.le_of_ble_eq_true rfl) ⟨(Nat.le_of_ble_eq_true rfl), (Nat.le_of_ble_eq_true rfl)⟩ dX10_all_42 (fun H locs hM => ?_)
        refine lv_iload_n (pc := 45) hx hb dX10_all_45 rfl (lv_at hl 3 rfl) ?_
        obtain ⟨v22, e21, h⟩ := ob h
        refine bz_callS1 (pc := 46) (As := [.long v10, .long v17, .int a3]) (rest := []) X hM hl.1 k_RX10_273 (ctX10_inLowestTerms l e21) rfl rfl ⟨(Nat.le_of_ble_eq_true rfl), (Nat.le_of_ble_eq_true rfl)⟩ (Nat.le_of_ble_eq_true rfl) ⟨(Nat.le_of_ble_eq_true rfl), (Nat.le_of_ble_eq_true rfl)⟩ dX10_all_46 (fun H locs hM => ?_)
        obtain ⟨rfl, rfl⟩ := so2 h
        exact bz_lret (pc := 49) X hM hr hlk dX10_all_49 (Nat.le_of_ble_eq_true rfl) (Nat.le_of_ble_eq_true rfl)
      · have h := if_t hc h
        exact wjX10_all_21 hX _ _ h H locs ls hM (lv_sub hl [0] rfl)
theorem rX10_all {N : Nat} {M : Mm} {a0 : Nat} {a1 : Int32} {a2 : Int32} {a3 : Int32} {r9 : Int64 × Mm} (h : fX10_all N M a0 a1 a2 a3 = some r9) : ∃ fs, M[a0]? = some (.inr (10, fs)) := by
  unfold fX10_all at h
  obtain ⟨_, e1, _⟩ := ob h
  exact gC_spec e1
theorem ctX10_all (l : Launch) {P : PT} {N : Nat} {M : Mm} {a0 : Nat} {a1 : Int32} {a2 : Int32} {a3 : Int32} {r9 : Int64} {M9 : Mm} (h : fX10_all N M a0 a1 a2 a3 = some (r9, M9)) : Ct l yX10_all cX10_all 4 (some .long) 6 0 P [.ref (pB P + a0), .int a1, .int a2, .int a3] M (some (.long r9)) M9 :=
  Ct.mk (by decide +kernel) (Nat.le_of_ble_eq_true rfl) (fun p e s m args below meth c hX => wX10_all hX M a0 a1 a2 a3 h)
set_option maxHeartbeats 4000000 in
set_option maxRecDepth 100000 in
theorem wBX11_oddsOf_15 {p : Program} {l : Launch} {e : Env} {s : State} {m : MethodId} {args : Array Value} {below : List Frame} {meth : Method} {c : Code} {P : PT} {N : Nat} {K15 : Mm → Nat → Int32 → Int32 → Int64 → Int32 → Option (Int64 × Mm)}  {r9 : Int64} {M9 : Mm} (hX : Cy p s m args c meth cX11_oddsOf 6 RX11 "oddsOf" (some .long) P)  (hK15 : ∀ (M : Mm) (x0 : Nat) (x1 : Int32) (x2 : Int32) (x3 : Int64) (x5 : Int32), K15 M x0 x1 x2 x3 x5 = some (r9, M9) → Wq p l e s m args below meth c 3 0 (some (.long r9)) M9 6 P 0 15 [(0, .ref (pB P + x0)), (1, .int x1), (2, .int x2), (3, .long x3), (5, .int x5)] [] M) (M : Mm) (x0 : Nat) (x1 : Int32) (x2 : Int32) (x3 : Int64) (x5 : Int32)  (h : BX11_oddsOf_15 N K15 M x0 x1 x2 x3 x5 = some (r9, M9)) : Wq p l e s m args below meth c 3 0 (some (.long r9)) M9 6 P 0 15 [(0, .ref (pB P + x0)), (1, .int x1), (2, .int x2), (3, .long x3), (5, .int x5)] [] M := by
  unfold BX11_oddsOf_15 at h
  have hX0 := hX
  obtain ⟨X, hr, hlk, hnm⟩ := hX0
  have hx := X.1.1
  have hb := X.1.2.1
  intro H locs ls hM hl
  refine lv_iload (pc := 15) hx hb dX11_oddsOf_15 (lv_at hl 4 rfl) ?_
  refine lv_iload_n (pc := 17) hx hb dX11_oddsOf_17 rfl (lv_at hl 2 rfl) ?_
  refine lv_icmp_gt (pc := 18) (tgt := 49) hx hb dX11_oddsOf_18 (by decide) (fun hc => ?_) (fun hc => ?_)
  · have h := if_t hc h
    refine lv_lload_n (pc := 49) hx hb dX11_oddsOf_49 rfl (lv_at hl 3 rfl) ?_
    obtain ⟨rfl, rfl⟩ := so2 h
    exact bz_lret (pc := 50) X hM hr hlk dX11_oddsOf_50 (Nat.le_of_ble_eq_true rfl) (Nat.le_of_ble_eq_true rfl)
  · have h := if_f hc h
    refine lv_lload_n (pc := 21) hx hb dX11_oddsOf_21 rfl (lv_at hl 3 rfl) ?_
    refine lv_aload_n (pc := 22) hx hb dX11_oddsOf_22 rfl (lv_at hl 0 rfl) ?_
    refine lv_iload_n (pc := 23) hx hb dX11_oddsOf_23 rfl (lv_at hl 1 rfl) ?_
    refine lv_aload_n (pc := 24) hx hb dX11_oddsOf_24 rfl (lv_at hl 0 rfl) ?_
    obtain ⟨q1, e2, h⟩ := ob h
    refine bz_getQ (pc := 25) X hM fl_RX11_9 e2 dX11_oddsOf_25 ?_
    refine lv_sipush (pc := 28) (v := (404 : Int32)) hx hb dX11_oddsOf_28 (by decide) ?_
    refine lv_iload (pc := 31) hx hb dX11_oddsOf_31 (lv_at hl 4 rfl) ?_
    refine lv_iadd (pc := 33) hx hb dX11_oddsOf_33 ?_
    obtain ⟨v3, e4, h⟩ := ob h
    refine bz_iald (pc := 34) X hM e4 dX11_oddsOf_34 ?_
    refine lv_iload (pc := 35) hx hb dX11_oddsOf_35 (lv_at hl 4 rfl) ?_
    obtain ⟨v6, M7, e5, h⟩ := ob2 h
    obtain ⟨fs8, hb9⟩ := (rX11_lawOf e5)
    refine bz_callV1 (pc := 37) (As := [.int x1, .int v3, .int x5]) (rest := [.long x3]) X hM hl.1 k_RX11_214 (ctX11_lawOf l e5) rfl hb9 rfl rfl ⟨(Nat.le_of_ble_eq_true rfl), (Nat.le_of_ble_eq_true rfl)⟩ (Nat.le_of_ble_eq_true rfl) ⟨(Nat.le_of_ble_eq_true rfl), (Nat.le_of_ble_eq_true rfl)⟩ dX11_oddsOf_37 (fun H locs hM => ?_)
    refine lv_i2l (pc := 40) (v := ((v6).toInt64)) hx hb dX11_oddsOf_40 rfl ?_
    refine lv_lmul (pc := 41) hx hb dX11_oddsOf_41 ?_
    refine lv_lstore_n (pc := 42) (lv' := [(3, .long (x3 * ((v6).toInt64))), (0, .ref (pB P + x0)), (1, .int x1), (2, .int x2), (5, .int x5)]) hx hb dX11_oddsOf_42 rfl hl (by decide) rfl (fun ls hl => ?_)
    refine lv_iinc (pc := 43) (v := (x5 + (1 : Int32))) (lv' := [(5, .int (x5 + (1 : Int32))), (3, .long (x3 * ((v6).toInt64))), (0, .ref (pB P + x0)), (1, .int x1), (2, .int x2)]) hx hb dX11_oddsOf_43 hl (k := 4) rfl rfl (by decide) rfl (fun ls hl => ?_)
    refine lv_goto (pc := 46) (tgt := 15) hx hb dX11_oddsOf_46 (by decide) ?_
    exact hK15 _ _ _ _ _ _ h H locs ls hM (lv_sub hl [2, 3, 4, 1, 0] rfl)
set_option maxHeartbeats 4000000 in
set_option maxRecDepth 100000 in
theorem wLX11_oddsOf_15 {p : Program} {l : Launch} {e : Env} {s : State} {m : MethodId} {args : Array Value} {below : List Frame} {meth : Method} {c : Code} {P : PT} {N : Nat}  {r9 : Int64} {M9 : Mm} (hX : Cy p s m args c meth cX11_oddsOf 6 RX11 "oddsOf" (some .long) P)   : ∀ (n : Nat) (M : Mm) (x0 : Nat) (x1 : Int32) (x2 : Int32) (x3 : Int64) (x5 : Int32) , LX11_oddsOf_15 N n M x0 x1 x2 x3 x5 = some (r9, M9) → Wq p l e s m args below meth c 3 0 (some (.long r9)) M9 6 P 0 15 [(0, .ref (pB P + x0)), (1, .int x1), (2, .int x2), (3, .long x3), (5, .int x5)] [] M := by
  intro n
  induction n with
  | zero => intro M x0 x1 x2 x3 x5 h; cases h
  | succ n ih => intro M x0 x1 x2 x3 x5 h; exact wBX11_oddsOf_15 hX ih M x0 x1 x2 x3 x5 h
set_option maxHeartbeats 4000000 in
set_option maxRecDepth 100000 in
theorem wX11_oddsOf {p : Program} {l : Launch} {e : Env} {s : State} {m : MethodId} {args : Array Value} {below : List Frame} {meth : Method} {c : Code} {P : PT} {N : Nat}  {r9 : Int64} {M9 : Mm} (hX : Cy p s m args c meth cX11_oddsOf 6 RX11 "oddsOf" (some .long) P)  (M : Mm) (a0 : Nat) (a1 : Int32) (a2 : Int32) (h : fX11_oddsOf N M a0 a1 a2 = some (r9, M9)) : Wq p l e s m args below meth c 3 0 (some (.long r9)) M9 6 P 0 0 [(0, .ref (pB P + a0)), (1, .int a1), (2, .int a2)] [] M := by
  unfold fX11_oddsOf at h
  obtain ⟨_, _, h⟩ := ob h
  have hX0 := hX
  obtain ⟨X, hr, hlk, hnm⟩ := hX0
  have hx := X.1.1
  have hb := X.1.2.1
  intro H locs ls hM hl
  refine lv_aload_n (pc := 0) hx hb dX11_oddsOf_0 rfl (lv_at hl 0 rfl) ?_
  obtain ⟨q1, e2, h⟩ := ob h
  refine bz_getQ (pc := 1) X hM fl_RX11_9 e2 dX11_oddsOf_1 ?_
  refine lv_sipush (pc := 4) (v := (398 : Int32)) hx hb dX11_oddsOf_4 (by decide) ?_
  refine lv_iload_n (pc := 7) hx hb dX11_oddsOf_7 rfl (lv_at hl 1 rfl) ?_
  refine lv_iadd (pc := 8) hx hb dX11_oddsOf_8 ?_
  obtain ⟨v3, e4, h⟩ := ob h
  refine bz_iald (pc := 9) X hM e4 dX11_oddsOf_9 ?_
  refine lv_i2l (pc := 10) (v := ((v3).toInt64)) hx hb dX11_oddsOf_10 rfl ?_
  refine lv_lstore_n (pc := 11) (lv' := [(3, .long ((v3).toInt64)), (0, .ref (pB P + a0)), (1, .int a1), (2, .int a2)]) hx hb dX11_oddsOf_11 rfl hl (by decide) rfl (fun ls hl => ?_)
  refine lv_iconst (pc := 12) (v := (0 : Int32)) hx hb dX11_oddsOf_12 (by decide) ?_
  refine lv_istore (pc := 13) (lv' := [(5, .int (0 : Int32)), (3, .long ((v3).toInt64)), (0, .ref (pB P + a0)), (1, .int a1), (2, .int a2)]) hx hb dX11_oddsOf_13 hl (by decide) rfl (fun ls hl => ?_)
  exact wLX11_oddsOf_15 hX _ _ _ _ _ _ _ h H locs ls hM (lv_sub hl [2, 3, 4, 1, 0] rfl)
theorem rX11_oddsOf {N : Nat} {M : Mm} {a0 : Nat} {a1 : Int32} {a2 : Int32} {r9 : Int64 × Mm} (h : fX11_oddsOf N M a0 a1 a2 = some r9) : ∃ fs, M[a0]? = some (.inr (11, fs)) := by
  unfold fX11_oddsOf at h
  obtain ⟨_, e1, _⟩ := ob h
  exact gC_spec e1
theorem ctX11_oddsOf (l : Launch) {P : PT} {N : Nat} {M : Mm} {a0 : Nat} {a1 : Int32} {a2 : Int32} {r9 : Int64} {M9 : Mm} (h : fX11_oddsOf N M a0 a1 a2 = some (r9, M9)) : Ct l yX11_oddsOf cX11_oddsOf 6 (some .long) 3 0 P [.ref (pB P + a0), .int a1, .int a2] M (some (.long r9)) M9 :=
  Ct.mk (by decide +kernel) (Nat.le_of_ble_eq_true rfl) (fun p e s m args below meth c hX => wX11_oddsOf hX M a0 a1 a2 h)
set_option maxHeartbeats 4000000 in
set_option maxRecDepth 100000 in
theorem wBX11_oddsOfAll_5 {p : Program} {l : Launch} {e : Env} {s : State} {m : MethodId} {args : Array Value} {below : List Frame} {meth : Method} {c : Code} {P : PT} {N : Nat} {K5 : Mm → Nat → Int32 → Int64 → Int32 → Option (Int64 × Mm)}  {r9 : Int64} {M9 : Mm} (hX : Cy p s m args c meth cX11_oddsOfAll 5 RX11 "oddsOfAll" (some .long) P)  (hK5 : ∀ (M : Mm) (x0 : Nat) (x1 : Int32) (x2 : Int64) (x4 : Int32), K5 M x0 x1 x2 x4 = some (r9, M9) → Wq p l e s m args below meth c 4 0 (some (.long r9)) M9 5 P 0 5 [(0, .ref (pB P + x0)), (1, .int x1), (2, .long x2), (4, .int x4)] [] M) (M : Mm) (x0 : Nat) (x1 : Int32) (x2 : Int64) (x4 : Int32)  (h : BX11_oddsOfAll_5 N K5 M x0 x1 x2 x4 = some (r9, M9)) : Wq p l e s m args below meth c 4 0 (some (.long r9)) M9 5 P 0 5 [(0, .ref (pB P + x0)), (1, .int x1), (2, .long x2), (4, .int x4)] [] M := by
  unfold BX11_oddsOfAll_5 at h
  have hX0 := hX
  obtain ⟨X, hr, hlk, hnm⟩ := hX0
  have hx := X.1.1
  have hb := X.1.2.1
  intro H locs ls hM hl
  refine lv_iload (pc := 5) hx hb dX11_oddsOfAll_5 (lv_at hl 3 rfl) ?_
  refine lv_bipush (pc := 7) (v := (6 : Int32)) hx hb dX11_oddsOfAll_7 (by decide) ?_
  refine lv_icmp_ge (pc := 9) (tgt := 28) hx hb dX11_oddsOfAll_9 (by decide) (fun hc => ?_) (fun hc => ?_)
  · have h := if_t hc h
    refine lv_lload_n (pc := 28) hx hb dX11_oddsOfAll_28 rfl (lv_at hl 2 rfl) ?_
    obtain ⟨rfl, rfl⟩ := so2 h
    exact bz_lret (pc := 29) X hM hr hlk dX11_oddsOfAll_29 (Nat.le_of_ble_eq_true rfl) (Nat.le_of_ble_eq_true rfl)
  · have h := if_f hc h
    refine lv_lload_n (pc := 12) hx hb dX11_oddsOfAll_12 rfl (lv_at hl 2 rfl) ?_
    refine lv_aload_n (pc := 13) hx hb dX11_oddsOfAll_13 rfl (lv_at hl 0 rfl) ?_
    refine lv_iload (pc := 14) hx hb dX11_oddsOfAll_14 (lv_at hl 3 rfl) ?_
    refine lv_iload_n (pc := 16) hx hb dX11_oddsOfAll_16 rfl (lv_at hl 1 rfl) ?_
    obtain ⟨v2, M3, e1, h⟩ := ob2 h
    obtain ⟨fs4, hb5⟩ := (rX11_oddsOf e1)
    refine bz_callV1 (pc := 17) (As := [.int x4, .int x1]) (rest := [.long x2]) X hM hl.1 k_RX11_299 (ctX11_oddsOf l e1) rfl hb5 rfl rfl ⟨(Nat.le_of_ble_eq_true rfl), (Nat.le_of_ble_eq_true rfl)⟩ (Nat.le_of_ble_eq_true rfl) ⟨(Nat.le_of_ble_eq_true rfl), (Nat.le_of_ble_eq_true rfl)⟩ dX11_oddsOfAll_17 (fun H locs hM => ?_)
    refine lv_ladd (pc := 20) hx hb dX11_oddsOfAll_20 ?_
    refine lv_lstore_n (pc := 21) (lv' := [(2, .long (x2 + v2)), (0, .ref (pB P + x0)), (1, .int x1), (4, .int x4)]) hx hb dX11_oddsOfAll_21 rfl hl (by decide) rfl (fun ls hl => ?_)
    refine lv_iinc (pc := 22) (v := (x4 + (1 : Int32))) (lv' := [(4, .int (x4 + (1 : Int32))), (2, .long (x2 + v2)), (0, .ref (pB P + x0)), (1, .int x1)]) hx hb dX11_oddsOfAll_22 hl (k := 3) rfl rfl (by decide) rfl (fun ls hl => ?_)
    refine lv_goto (pc := 25) (tgt := 5) hx hb dX11_oddsOfAll_25 (by decide) ?_
    exact hK5 _ _ _ _ _ h H locs ls hM (lv_sub hl [2, 3, 1, 0] rfl)
set_option maxHeartbeats 4000000 in
set_option maxRecDepth 100000 in
theorem wLX11_oddsOfAll_5 {p : Program} {l : Launch} {e : Env} {s : State} {m : MethodId} {args : Array Value} {below : List Frame} {meth : Method} {c : Code} {P : PT} {N : Nat}  {r9 : Int64} {M9 : Mm} (hX : Cy p s m args c meth cX11_oddsOfAll 5 RX11 "oddsOfAll" (some .long) P)   : ∀ (n : Nat) (M : Mm) (x0 : Nat) (x1 : Int32) (x2 : Int64) (x4 : Int32) , LX11_oddsOfAll_5 N n M x0 x1 x2 x4 = some (r9, M9) → Wq p l e s m args below meth c 4 0 (some (.long r9)) M9 5 P 0 5 [(0, .ref (pB P + x0)), (1, .int x1), (2, .long x2), (4, .int x4)] [] M := by
  intro n
  induction n with
  | zero => intro M x0 x1 x2 x4 h; cases h
  | succ n ih => intro M x0 x1 x2 x4 h; exact wBX11_oddsOfAll_5 hX ih M x0 x1 x2 x4 h
set_option maxHeartbeats 4000000 in
set_option maxRecDepth 100000 in
theorem wX11_oddsOfAll {p : Program} {l : Launch} {e : Env} {s : State} {m : MethodId} {args : Array Value} {below : List Frame} {meth : Method} {c : Code} {P : PT} {N : Nat}  {r9 : Int64} {M9 : Mm} (hX : Cy p s m args c meth cX11_oddsOfAll 5 RX11 "oddsOfAll" (some .long) P)  (M : Mm) (a0 : Nat) (a1 : Int32) (h : fX11_oddsOfAll N M a0 a1 = some (r9, M9)) : Wq p l e s m args below meth c 4 0 (some (.long r9)) M9 5 P 0 0 [(0, .ref (pB P + a0)), (1, .int a1)] [] M := by
  unfold fX11_oddsOfAll at h
  obtain ⟨_, _, h⟩ := ob h
  have hX0 := hX
  obtain ⟨X, hr, hlk, hnm⟩ := hX0
  have hx := X.1.1
  have hb := X.1.2.1
  intro H locs ls hM hl
  refine lv_lconst (pc := 0) (v := (0 : Int64)) hx hb dX11_oddsOfAll_0 (by decide) ?_
  refine lv_lstore_n (pc := 1) (lv' := [(2, .long (0 : Int64)), (0, .ref (pB P + a0)), (1, .int a1)]) hx hb dX11_oddsOfAll_1 rfl hl (by decide) rfl (fun ls hl => ?_)
  refine lv_iconst (pc := 2) (v := (0 : Int32)) hx hb dX11_oddsOfAll_2 (by decide) ?_
  refine lv_istore (pc := 3) (lv' := [(4, .int (0 : Int32)), (2, .long (0 : Int64)), (0, .ref (pB P + a0)), (1, .int a1)]) hx hb dX11_oddsOfAll_3 hl (by decide) rfl (fun ls hl => ?_)
  exact wLX11_oddsOfAll_5 hX _ _ _ _ _ _ h H locs ls hM (lv_sub hl [2, 3, 1, 0] rfl)
theorem rX11_oddsOfAll {N : Nat} {M : Mm} {a0 : Nat} {a1 : Int32} {r9 : Int64 × Mm} (h : fX11_oddsOfAll N M a0 a1 = some r9) : ∃ fs, M[a0]? = some (.inr (11, fs)) := by
  unfold fX11_oddsOfAll at h
  obtain ⟨_, e1, _⟩ := ob h
  exact gC_spec e1
theorem ctX11_oddsOfAll (l : Launch) {P : PT} {N : Nat} {M : Mm} {a0 : Nat} {a1 : Int32} {r9 : Int64} {M9 : Mm} (h : fX11_oddsOfAll N M a0 a1 = some (r9, M9)) : Ct l yX11_oddsOfAll cX11_oddsOfAll 5 (some .long) 4 0 P [.ref (pB P + a0), .int a1] M (some (.long r9)) M9 :=
  Ct.mk (by decide +kernel) (Nat.le_of_ble_eq_true rfl) (fun p e s m args below meth c hX => wX11_oddsOfAll hX M a0 a1 h)
set_option maxHeartbeats 4000000 in
set_option maxRecDepth 100000 in
theorem wjX11_all_24 {p : Program} {l : Launch} {e : Env} {s : State} {m : MethodId} {args : Array Value} {below : List Frame} {meth : Method} {c : Code} {P : PT} {N : Nat}  {r9 : Int64} {M9 : Mm} (hX : Cy p s m args c meth cX11_all 10 RX11 "all" (some .long) P)   (M : Mm) (x0 : Nat)  (h : jX11_all_24 N M x0 = some (r9, M9)) : Wq p l e s m args below meth c 5 0 (some (.long r9)) M9 10 P 0 24 [(0, .ref (pB P + x0))] [] M := by
  unfold jX11_all_24 at h
  have hX0 := hX
  obtain ⟨X, hr, hlk, hnm⟩ := hX0
  have hx := X.1.1
  have hb := X.1.2.1
  intro H locs ls hM hl
  refine lv_aload_n (pc := 24) hx hb dX11_all_24 rfl (lv_at hl 0 rfl) ?_
  refine lv_iconst (pc := 25) (v := (1 : Int32)) hx hb dX11_all_25 (by decide) ?_
  obtain ⟨v2, M3, e1, h⟩ := ob2 h
  obtain ⟨fs4, hb5⟩ := (rX11_error e1)
  refine bz_callV1 (pc := 26) (As := [.int (1 : Int32)]) (rest := []) X hM hl.1 k_RX11_73 (ctX11_error l e1) rfl hb5 rfl rfl ⟨(Nat.le_of_ble_eq_true rfl), (Nat.le_of_ble_eq_true rfl)⟩ (Nat.le_of_ble_eq_true rfl) ⟨(Nat.le_of_ble_eq_true rfl), (Nat.le_of_ble_eq_true rfl)⟩ dX11_all_26 (fun H locs hM => ?_)
  refine lv_i2l (pc := 29) (v := ((v2).toInt64)) hx hb dX11_all_29 rfl ?_
  obtain ⟨rfl, rfl⟩ := so2 h
  exact bz_lret (pc := 30) X hM hr hlk dX11_all_30 (Nat.le_of_ble_eq_true rfl) (Nat.le_of_ble_eq_true rfl)
set_option maxHeartbeats 4000000 in
set_option maxRecDepth 100000 in
theorem wX11_all {p : Program} {l : Launch} {e : Env} {s : State} {m : MethodId} {args : Array Value} {below : List Frame} {meth : Method} {c : Code} {P : PT} {N : Nat}  {r9 : Int64} {M9 : Mm} (hX : Cy p s m args c meth cX11_all 10 RX11 "all" (some .long) P)  (M : Mm) (a0 : Nat) (a1 : Int32) (a2 : Int32) (a3 : Int32) (h : fX11_all N M a0 a1 a2 a3 = some (r9, M9)) : Wq p l e s m args below meth c 5 0 (some (.long r9)) M9 10 P 0 0 [(0, .ref (pB P + a0)), (1, .int a1), (2, .int a2), (3, .int a3)] [] M := by
  unfold fX11_all at h
  obtain ⟨_, _, h⟩ := ob h
  have hX0 := hX
  obtain ⟨X, hr, hlk, hnm⟩ := hX0
  have hx := X.1.1
  have hb := X.1.2.1
  intro H locs ls hM hl
  refine lv_iload_n (pc := 0) hx hb dX11_all_0 rfl (lv_at hl 1 rfl) ?_
  obtain ⟨v2, e1, h⟩ := ob h
  refine bz_callS1 (pc := 1) (As := [.int a1]) (rest := []) X hM hl.1 k_RX11_211 (ctX11_isLaw l e1) rfl rfl ⟨(Nat.le_of_ble_eq_true rfl), (Nat.le_of_ble_eq_true rfl)⟩ (Nat.le_of_ble_eq_true rfl) ⟨(Nat.le_of_ble_eq_true rfl), (Nat.le_of_ble_eq_true rfl)⟩ dX11_all_1 (fun H locs hM => ?_)
  refine lv_if_eq (pc := 4) (tgt := 24) hx hb dX11_all_4 (by decide) (fun hc => ?_) (fun hc => ?_)
  · have h := if_t hc h
    exact wjX11_all_24 hX _ _ h H locs ls hM (lv_sub hl [0] rfl)
  · have h := if_f hc h
    refine lv_iload_n (pc := 7) hx hb dX11_all_7 rfl (lv_at hl 2 rfl) ?_
    obtain ⟨v4, e3, h⟩ := ob h
    refine bz_callS1 (pc := 8) (As := [.int a2]) (rest := []) X hM hl.1 k_RX11_296 (ctX11_isYear l e3) rfl rfl ⟨(Nat.le_of_ble_eq_true rfl), (Nat.le_of_ble_eq_true rfl)⟩ (Nat.le_of_ble_eq_true rfl) ⟨(Nat.le_of_ble_eq_true rfl), (Nat.le_of_ble_eq_true rfl)⟩ dX11_all_8 (fun H locs hM => ?_)
    refine lv_if_eq (pc := 11) (tgt := 24) hx hb dX11_all_11 (by decide) (fun hc => ?_) (fun hc => ?_)
    · have h := if_t hc h
      exact wjX11_all_24 hX _ _ h H locs ls hM (lv_sub hl [0] rfl)
    · have h := if_f hc h
      refine lv_iload_n (pc := 14) hx hb dX11_all_14 rfl (lv_at hl 3 rfl) ?_
      refine lv_i2l (pc := 15) (v := ((a3).toInt64)) hx hb dX11_all_15 rfl ?_
      refine lv_lconst (pc := 16) (v := (0 : Int64)) hx hb dX11_all_16 (by decide) ?_
      refine lv_lconst (pc := 17) (v := (1 : Int64)) hx hb dX11_all_17 (by decide) ?_
      obtain ⟨v6, e5, h⟩ := ob h
      refine bz_callS1 (pc := 18) (As := [.long ((a3).toInt64), .long (0 : Int64), .long (1 : Int64)]) (rest := []) X hM hl.1 k_RX11_57 (ctX11_in l e5) rfl rfl ⟨(Nat.le_of_ble_eq_true rfl), (Nat.le_of_ble_eq_true rfl)⟩ (Nat.le_of_ble_eq_true rfl) ⟨(Nat.le_of_ble_eq_true rfl), (Nat.le_of_ble_eq_true rfl)⟩ dX11_all_18 (fun H locs hM => ?_)
      refine lv_if_ne (pc := 21) (tgt := 31) hx hb dX11_all_21 (by decide) (fun hc => ?_) (fun hc => ?_)
      · have h := if_f hc h
        refine lv_aload_n (pc := 31) hx hb dX11_all_31 rfl (lv_at hl 0 rfl) ?_
        refine lv_iload_n (pc := 32) hx hb dX11_all_32 rfl (lv_at hl 2 rfl) ?_
        obtain ⟨v8, M9, e7, h⟩ := ob2 h
        obtain ⟨fs10, hb11⟩ := (rX11_oddsOfAll e7)
        refine bz_callV1 (pc := 33) (As := [.int a2]) (rest := []) X hM hl.1 k_RX11_303 (ctX11_oddsOfAll l e7) rfl hb11 rfl rfl ⟨(Nat.le_of_ble_eq_true rfl), (Nat.le_of_ble_eq_true rfl)⟩ (Nat.le_of_ble_eq_true rfl) ⟨(Nat.le_of_ble_eq_true rfl), (Nat.le_of_ble_eq_true rfl)⟩ dX11_all_33 (fun H locs hM => ?_)
        refine lv_lstore (pc := 36) (lv' := [(4, .long v8), (0, .ref (pB P + a0)), (1, .int a1), (2, .int a2), (3, .int a3)]) hx hb dX11_all_36 hl (by decide) rfl (fun ls hl => ?_)
        refine lv_lload (pc := 38) hx hb dX11_all_38 (lv_at hl 0 rfl) ?_
        refine lv_lconst (pc := 40) (v := (0 : Int64)) hx hb dX11_all_40 (by decide) ?_
        refine W.lcmp (pc := 41) hx hb dX11_all_41 ?_
        refine lv_if_ne (pc := 42) (tgt := 48) hx hb dX11_all_42 (by decide) (fun hc => ?_) (fun hc => ?_)
        · have h := if_f hc h
          refine lv_aload_n (pc := 48) hx hb dX11_all_48 rfl (lv_at hl 1 rfl) ?_
          refine lv_iload_n (pc := 49) hx hb dX11_all_49 rfl (lv_at hl 2 rfl) ?_
          refine lv_iload_n (pc := 50) hx hb dX11_all_50 rfl (lv_at hl 3 rfl) ?_
          obtain ⟨v13, M14, e12, h⟩ := ob2 h
          obtain ⟨fs15, hb16⟩ := (rX11_oddsOf e12)
          refine bz_callV1 (pc := 51) (As := [.int a1, .int a2]) (rest := []) X hM hl.1 k_RX11_299 (ctX11_oddsOf l e12) rfl hb16 rfl rfl ⟨(Nat.le_of_ble_eq_true rfl), (Nat.le_of_ble_eq_true rfl)⟩ (Nat.le_of_ble_eq_true rfl) ⟨(Nat.le_of_ble_eq_true rfl), (Nat.le_of_ble_eq_true rfl)⟩ dX11_all_51 (fun H locs hM => ?_)
          refine lv_lstore (pc := 54) (lv' := [(6, .long v13), (4, .long v8), (0, .ref (pB P + a0)), (1, .int a1), (2, .int a2), (3, .int a3)]) hx hb dX11_all_54 hl (by decide) rfl (fun ls hl => ?_)
          refine lv_lload (pc := 56) hx hb dX11_all_56 (lv_at hl 0 rfl) ?_
          refine lv_lload (pc := 58) hx hb dX11_all_58 (lv_at hl 1 rfl) ?_
          obtain ⟨v18, e17, h⟩ := ob h
          refine bz_callS1 (pc := 60) (As := [.long v13, .long v8]) (rest := []) X hM hl.1 k_RX11_249 (ctX11_common l e17) rfl rfl ⟨(Nat.le_of_ble_eq_true rfl), (Nat.le_of_ble_eq_true rfl)⟩ (Nat.le_of_ble_eq_true rfl) ⟨(Nat.le_of_ble_eq_true rfl), (Nat.le_of_ble_eq_true rfl)⟩ dX11_all_60 (fun H locs hM => ?_)
          refine lv_lstore (pc := 63) (lv' := [(8, .long v18), (6, .long v13), (4, .long v8), (0, .ref (pB P + a0)), (1, .int a1), (2, .int a2), (3, .int a3)]) hx hb dX11_all_63 hl (by decide) rfl (fun ls hl => ?_)
          refine lv_iload_n (pc := 65) hx hb dX11_all_65 rfl (lv_at hl 6 rfl) ?_
          refine lv_if_ne (pc := 66) (tgt := 77) hx hb dX11_all_66 (by decide) (fun hc => ?_) (fun hc => ?_)
          · have h := if_f hc h
            refine lv_lload (pc := 77) hx hb dX11_all_77 (lv_at hl 2 rfl) ?_
            refine lv_lload (pc := 79) hx hb dX11_all_79 (lv_at hl 0 rfl) ?_
            obtain ⟨v19, e20, h⟩ := ob h
            refine bz_ldiv (pc := 81) hx hb e20 dX11_all_81 ?_
            obtain ⟨rfl, rfl⟩ := so2 h
            exact bz_lret (pc := 82) X hM hr hlk dX11_all_82 (Nat.le_of_ble_eq_true rfl) (Nat.le_of_ble_eq_true rfl)
          · have h := if_t hc h
            refine lv_lload (pc := 69) hx hb dX11_all_69 (lv_at hl 1 rfl) ?_
            refine lv_lload (pc := 71) hx hb dX11_all_71 (lv_at hl 0 rfl) ?_
            obtain ⟨v21, e22, h⟩ := ob h
            refine bz_ldiv (pc := 73) hx hb e22 dX11_all_73 ?_
            refine lv_goto (pc := 74) (tgt := 82) hx hb dX11_all_74 (by decide) ?_
            obtain ⟨rfl, rfl⟩ := so2 h
            exact bz_lret (pc := 82) X hM hr hlk dX11_all_82 (Nat.le_of_ble_eq_true rfl) (Nat.le_of_ble_eq_true rfl)
        · have h := if_t hc h
          refine lv_iload_n (pc := 45) hx hb dX11_all_45 rfl (lv_at hl 4 rfl) ?_
          refine lv_i2l (pc := 46) (v := ((a3).toInt64)) hx hb dX11_all_46 rfl ?_
          obtain ⟨rfl, rfl⟩ := so2 h
          exact bz_lret (pc := 47) X hM hr hlk dX11_all_47 (Nat.le_of_ble_eq_true rfl) (Nat.le_of_ble_eq_true rfl)
      · have h := if_t hc h
        exact wjX11_all_24 hX _ _ h H locs ls hM (lv_sub hl [0] rfl)
theorem rX11_all {N : Nat} {M : Mm} {a0 : Nat} {a1 : Int32} {a2 : Int32} {a3 : Int32} {r9 : Int64 × Mm} (h : fX11_all N M a0 a1 a2 a3 = some r9) : ∃ fs, M[a0]? = some (.inr (11, fs)) := by
  unfold fX11_all at h
  obtain ⟨_, e1, _⟩ := ob h
  exact gC_spec e1
theorem ctX11_all (l : Launch) {P : PT} {N : Nat} {M : Mm} {a0 : Nat} {a1 : Int32} {a2 : Int32} {a3 : Int32} {r9 : Int64} {M9 : Mm} (h : fX11_all N M a0 a1 a2 a3 = some (r9, M9)) : Ct l yX11_all cX11_all 10 (some .long) 5 0 P [.ref (pB P + a0), .int a1, .int a2, .int a3] M (some (.long r9)) M9 :=
  Ct.mk (by decide +kernel) (Nat.le_of_ble_eq_true rfl) (fun p e s m args below meth c hX => wX11_all hX M a0 a1 a2 a3 h)
set_option maxHeartbeats 4000000 in
set_option maxRecDepth 100000 in
theorem wJ9_max_f86c9 {p : Program} {l : Launch} {e : Env} {s : State} {m : MethodId} {args : Array Value} {below : List Frame} {meth : Method} {c : Code} {P : PT}  {r9 : Int64} (hX : Cy p s m args c meth cJ9_max_f86c9 4 RJ9 "max" (some .long) P)  (M : Mm) (a0 : Int64) (a2 : Int64) (h : fJ9_max_f86c9 M a0 a2 = some r9) : Wq p l e s m args below meth c 0 0 (some (.long r9)) M 4 P 0 0 [(0, .long a0), (2, .long a2)] [] M := by
  unfold fJ9_max_f86c9 at h
  have hX0 := hX
  obtain ⟨X, hr, hlk, hnm⟩ := hX0
  have hx := X.1.1
  have hb := X.1.2.1
  intro H locs ls hM hl
  refine lv_lload_n (pc := 0) hx hb dJ9_max_f86c9_0 rfl (lv_at hl 0 rfl) ?_
  refine lv_lload_n (pc := 1) hx hb dJ9_max_f86c9_1 rfl (lv_at hl 1 rfl) ?_
  refine W.lcmp (pc := 2) hx hb dJ9_max_f86c9_2 ?_
  refine lv_if_lt (pc := 3) (tgt := 10) hx hb dJ9_max_f86c9_3 (by decide) (fun hc => ?_) (fun hc => ?_)
  · have h := if_t hc h
    refine lv_lload_n (pc := 10) hx hb dJ9_max_f86c9_10 rfl (lv_at hl 1 rfl) ?_
    obtain rfl := so1 h
    exact bz_lret (pc := 11) X hM hr hlk dJ9_max_f86c9_11 (Nat.le_of_ble_eq_true rfl) (Nat.le_of_ble_eq_true rfl)
  · have h := if_f hc h
    refine lv_lload_n (pc := 6) hx hb dJ9_max_f86c9_6 rfl (lv_at hl 0 rfl) ?_
    refine lv_goto (pc := 7) (tgt := 11) hx hb dJ9_max_f86c9_7 (by decide) ?_
    obtain rfl := so1 h
    exact bz_lret (pc := 11) X hM hr hlk dJ9_max_f86c9_11 (Nat.le_of_ble_eq_true rfl) (Nat.le_of_ble_eq_true rfl)
theorem ctJ9_max_f86c9 (l : Launch) {P : PT} {M : Mm} {a0 : Int64} {a2 : Int64} {r9 : Int64} (h : fJ9_max_f86c9 M a0 a2 = some r9) : Ct l yJ9_max_f86c9 cJ9_max_f86c9 4 (some .long) 0 0 P [.long a0, .long a2] M (some (.long r9)) M :=
  Ct.mk (by decide +kernel) (Nat.le_of_ble_eq_true rfl) (fun p e s m args below meth c hX => wJ9_max_f86c9 hX M a0 a2 h)
set_option maxHeartbeats 4000000 in
set_option maxRecDepth 100000 in
theorem wBX10_say_36 {p : Program} {l : Launch} {e : Env} {s : State} {m : MethodId} {args : Array Value} {below : List Frame} {meth : Method} {c : Code} {P : PT} {N : Nat} {K36 : Mm → Nat → Int32 → Int64 → Int64 → Int32 → Option (Int32 × Mm)}  {r9 : Int32} {M9 : Mm} (hX : Cy p s m args c meth cX10_say 7 RX10 "say" (some .int) P)  (hK36 : ∀ (M : Mm) (x0 : Nat) (x1 : Int32) (x2 : Int64) (x4 : Int64) (x6 : Int32), K36 M x0 x1 x2 x4 x6 = some (r9, M9) → Wq p l e s m args below meth c 6 0 (some (.int r9)) M9 7 P 0 36 [(0, .ref (pB P + x0)), (1, .int x1), (2, .long x2), (4, .long x4), (6, .int x6)] [] M) (M : Mm) (x0 : Nat) (x1 : Int32) (x2 : Int64) (x4 : Int64) (x6 : Int32)  (h : BX10_say_36 N K36 M x0 x1 x2 x4 x6 = some (r9, M9)) : Wq p l e s m args below meth c 6 0 (some (.int r9)) M9 7 P 0 36 [(0, .ref (pB P + x0)), (1, .int x1), (2, .long x2), (4, .long x4), (6, .int x6)] [] M := by
  unfold BX10_say_36 at h
  have hX0 := hX
  obtain ⟨X, hr, hlk, hnm⟩ := hX0
  have hx := X.1.1
  have hb := X.1.2.1
  intro H locs ls hM hl
  refine lv_iload (pc := 36) hx hb dX10_say_36 (lv_at hl 4 rfl) ?_
  refine lv_bipush (pc := 38) (v := (6 : Int32)) hx hb dX10_say_38 (by decide) ?_
  refine lv_icmp_ge (pc := 40) (tgt := 66) hx hb dX10_say_40 (by decide) (fun hc => ?_) (fun hc => ?_)
  · have h := if_t hc h
    refine lv_ldc2 (pc := 66) (v := (10 : Int64)) hx hb X.1.2.2.2.1 (X.1.2.2.2.2 _ g_1042) dX10_say_66 ?_
    refine lv_lload (pc := 69) hx hb dX10_say_69 (lv_at hl 3 rfl) ?_
    refine lv_lmul (pc := 71) hx hb dX10_say_71 ?_
    refine lv_ldc2 (pc := 72) (v := (9 : Int64)) hx hb X.1.2.2.2.1 (X.1.2.2.2.2 _ g_1043) dX10_say_72 ?_
    refine lv_lload_n (pc := 75) hx hb dX10_say_75 rfl (lv_at hl 2 rfl) ?_
    refine lv_lmul (pc := 76) hx hb dX10_say_76 ?_
    refine W.lcmp (pc := 77) hx hb dX10_say_77 ?_
    refine lv_if_lt (pc := 78) (tgt := 83) hx hb dX10_say_78 (by decide) (fun hc => ?_) (fun hc => ?_)
    · have h := if_t hc h
      refine lv_ldc2 (pc := 83) (v := (2 : Int64)) hx hb X.1.2.2.2.1 (X.1.2.2.2.2 _ g_1044) dX10_say_83 ?_
      refine lv_lload (pc := 86) hx hb dX10_say_86 (lv_at hl 3 rfl) ?_
      refine lv_lmul (pc := 88) hx hb dX10_say_88 ?_
      refine lv_lload_n (pc := 89) hx hb dX10_say_89 rfl (lv_at hl 2 rfl) ?_
      refine W.lcmp (pc := 90) hx hb dX10_say_90 ?_
      refine lv_if_lt (pc := 91) (tgt := 98) hx hb dX10_say_91 (by decide) (fun hc => ?_) (fun hc => ?_)
      · have h := if_t hc h
        refine lv_iconst (pc := 98) (v := (0 : Int32)) hx hb dX10_say_98 (by decide) ?_
        obtain ⟨rfl, rfl⟩ := so2 h
        exact bz_iret (pc := 99) X hM hr hlk dX10_say_99 (Nat.le_of_ble_eq_true rfl) (Nat.le_of_ble_eq_true rfl)
      · have h := if_f hc h
        refine lv_iconst (pc := 94) (v := (1 : Int32)) hx hb dX10_say_94 (by decide) ?_
        refine lv_goto (pc := 95) (tgt := 99) hx hb dX10_say_95 (by decide) ?_
        obtain ⟨rfl, rfl⟩ := so2 h
        exact bz_iret (pc := 99) X hM hr hlk dX10_say_99 (Nat.le_of_ble_eq_true rfl) (Nat.le_of_ble_eq_true rfl)
    · have h := if_f hc h
      refine lv_iconst (pc := 81) (v := (2 : Int32)) hx hb dX10_say_81 (by decide) ?_
      obtain ⟨rfl, rfl⟩ := so2 h
      exact bz_iret (pc := 82) X hM hr hlk dX10_say_82 (Nat.le_of_ble_eq_true rfl) (Nat.le_of_ble_eq_true rfl)
  · have h := if_f hc h
    refine lv_lload (pc := 43) hx hb dX10_say_43 (lv_at hl 3 rfl) ?_
    refine lv_aload_n (pc := 45) hx hb dX10_say_45 rfl (lv_at hl 0 rfl) ?_
    obtain ⟨q1, e2, h⟩ := ob h
    refine bz_getQ (pc := 46) X hM fl_RX10_10 e2 dX10_say_46 ?_
    refine lv_iload (pc := 49) hx hb dX10_say_49 (lv_at hl 4 rfl) ?_
    refine lv_iload_n (pc := 51) hx hb dX10_say_51 rfl (lv_at hl 1 rfl) ?_
    obtain ⟨v4, M5, e3, h⟩ := ob2 h
    obtain ⟨fs6, hb7⟩ := (rX6_shareOf e3)
    refine bz_callV1 (pc := 52) (As := [.int x6, .int x1]) (rest := [.long x4]) X hM hl.1 k_RX10_327 (ctX6_shareOf l e3) rfl hb7 rfl rfl ⟨(Nat.le_of_ble_eq_true rfl), (Nat.le_of_ble_eq_true rfl)⟩ (Nat.le_of_ble_eq_true rfl) ⟨(Nat.le_of_ble_eq_true rfl), (Nat.le_of_ble_eq_true rfl)⟩ dX10_say_52 (fun H locs hM => ?_)
    obtain ⟨v9, e8, h⟩ := ob h
    refine bz_callS1 (pc := 55) (As := [.long x4, .long v4]) (rest := []) X hM hl.1 k_RX10_335 (ctJ9_max_f86c9 l e8) rfl rfl ⟨(Nat.le_of_ble_eq_true rfl), (Nat.le_of_ble_eq_true rfl)⟩ (Nat.le_of_ble_eq_true rfl) ⟨(Nat.le_of_ble_eq_true rfl), (Nat.le_of_ble_eq_true rfl)⟩ dX10_say_55 (fun H locs hM => ?_)
    refine lv_lstore (pc := 58) (lv' := [(4, .long v9), (0, .ref (pB P + x0)), (1, .int x1), (2, .long x2), (6, .int x6)]) hx hb dX10_say_58 hl (by decide) rfl (fun ls hl => ?_)
    refine lv_iinc (pc := 60) (v := (x6 + (1 : Int32))) (lv' := [(6, .int (x6 + (1 : Int32))), (4, .long v9), (0, .ref (pB P + x0)), (1, .int x1), (2, .long x2)]) hx hb dX10_say_60 hl (k := 4) rfl rfl (by decide) rfl (fun ls hl => ?_)
    refine lv_goto (pc := 63) (tgt := 36) hx hb dX10_say_63 (by decide) ?_
    exact hK36 _ _ _ _ _ _ h H locs ls hM (lv_sub hl [2, 3, 4, 1, 0] rfl)
set_option maxHeartbeats 4000000 in
set_option maxRecDepth 100000 in
theorem wLX10_say_36 {p : Program} {l : Launch} {e : Env} {s : State} {m : MethodId} {args : Array Value} {below : List Frame} {meth : Method} {c : Code} {P : PT} {N : Nat}  {r9 : Int32} {M9 : Mm} (hX : Cy p s m args c meth cX10_say 7 RX10 "say" (some .int) P)   : ∀ (n : Nat) (M : Mm) (x0 : Nat) (x1 : Int32) (x2 : Int64) (x4 : Int64) (x6 : Int32) , LX10_say_36 N n M x0 x1 x2 x4 x6 = some (r9, M9) → Wq p l e s m args below meth c 6 0 (some (.int r9)) M9 7 P 0 36 [(0, .ref (pB P + x0)), (1, .int x1), (2, .long x2), (4, .long x4), (6, .int x6)] [] M := by
  intro n
  induction n with
  | zero => intro M x0 x1 x2 x4 x6 h; cases h
  | succ n ih => intro M x0 x1 x2 x4 x6 h; exact wBX10_say_36 hX ih M x0 x1 x2 x4 x6 h
set_option maxHeartbeats 4000000 in
set_option maxRecDepth 100000 in
theorem wX10_say {p : Program} {l : Launch} {e : Env} {s : State} {m : MethodId} {args : Array Value} {below : List Frame} {meth : Method} {c : Code} {P : PT} {N : Nat}  {r9 : Int32} {M9 : Mm} (hX : Cy p s m args c meth cX10_say 7 RX10 "say" (some .int) P)  (M : Mm) (a0 : Nat) (a1 : Int32) (h : fX10_say N M a0 a1 = some (r9, M9)) : Wq p l e s m args below meth c 6 0 (some (.int r9)) M9 7 P 0 0 [(0, .ref (pB P + a0)), (1, .int a1)] [] M := by
  unfold fX10_say at h
  obtain ⟨_, _, h⟩ := ob h
  have hX0 := hX
  obtain ⟨X, hr, hlk, hnm⟩ := hX0
  have hx := X.1.1
  have hb := X.1.2.1
  intro H locs ls hM hl
  refine lv_iload_n (pc := 0) hx hb dX10_say_0 rfl (lv_at hl 1 rfl) ?_
  obtain ⟨v2, e1, h⟩ := ob h
  refine bz_callS1 (pc := 1) (As := [.int a1]) (rest := []) X hM hl.1 k_RX10_321 (ctX10_isYear l e1) rfl rfl ⟨(Nat.le_of_ble_eq_true rfl), (Nat.le_of_ble_eq_true rfl)⟩ (Nat.le_of_ble_eq_true rfl) ⟨(Nat.le_of_ble_eq_true rfl), (Nat.le_of_ble_eq_true rfl)⟩ dX10_say_1 (fun H locs hM => ?_)
  refine lv_if_ne (pc := 4) (tgt := 13) hx hb dX10_say_4 (by decide) (fun hc => ?_) (fun hc => ?_)
  · have h := if_f hc h
    refine lv_aload_n (pc := 13) hx hb dX10_say_13 rfl (lv_at hl 0 rfl) ?_
    obtain ⟨q3, e4, h⟩ := ob h
    refine bz_getQ (pc := 14) X hM fl_RX10_10 e4 dX10_say_14 ?_
    refine lv_iload_n (pc := 17) hx hb dX10_say_17 rfl (lv_at hl 1 rfl) ?_
    obtain ⟨v6, M7, e5, h⟩ := ob2 h
    obtain ⟨fs8, hb9⟩ := (rX6_sharesTogether e5)
    refine bz_callV1 (pc := 18) (As := [.int a1]) (rest := []) X hM hl.1 k_RX10_331 (ctX6_sharesTogether l e5) rfl hb9 rfl rfl ⟨(Nat.le_of_ble_eq_true rfl), (Nat.le_of_ble_eq_true rfl)⟩ (Nat.le_of_ble_eq_true rfl) ⟨(Nat.le_of_ble_eq_true rfl), (Nat.le_of_ble_eq_true rfl)⟩ dX10_say_18 (fun H locs hM => ?_)
    refine lv_lstore_n (pc := 21) (lv' := [(2, .long v6), (0, .ref (pB P + a0)), (1, .int a1)]) hx hb dX10_say_21 rfl hl (by decide) rfl (fun ls hl => ?_)
    refine lv_lload_n (pc := 22) hx hb dX10_say_22 rfl (lv_at hl 0 rfl) ?_
    refine lv_lconst (pc := 23) (v := (0 : Int64)) hx hb dX10_say_23 (by decide) ?_
    refine W.lcmp (pc := 24) hx hb dX10_say_24 ?_
    refine lv_if_ne (pc := 25) (tgt := 30) hx hb dX10_say_25 (by decide) (fun hc => ?_) (fun hc => ?_)
    · have h := if_f hc h
      refine lv_lconst (pc := 30) (v := (0 : Int64)) hx hb dX10_say_30 (by decide) ?_
      refine lv_lstore (pc := 31) (lv' := [(4, .long (0 : Int64)), (2, .long v6), (0, .ref (pB P + a0)), (1, .int a1)]) hx hb dX10_say_31 hl (by decide) rfl (fun ls hl => ?_)
      refine lv_iconst (pc := 33) (v := (0 : Int32)) hx hb dX10_say_33 (by decide) ?_
      refine lv_istore (pc := 34) (lv' := [(6, .int (0 : Int32)), (4, .long (0 : Int64)), (2, .long v6), (0, .ref (pB P + a0)), (1, .int a1)]) hx hb dX10_say_34 hl (by decide) rfl (fun ls hl => ?_)
      exact wLX10_say_36 hX _ _ _ _ _ _ _ h H locs ls hM (lv_sub hl [3, 4, 2, 1, 0] rfl)
    · have h := if_t hc h
      refine lv_iconst (pc := 28) (v := (0 : Int32)) hx hb dX10_say_28 (by decide) ?_
      obtain ⟨rfl, rfl⟩ := so2 h
      exact bz_iret (pc := 29) X hM hr hlk dX10_say_29 (Nat.le_of_ble_eq_true rfl) (Nat.le_of_ble_eq_true rfl)
  · have h := if_t hc h
    refine lv_aload_n (pc := 7) hx hb dX10_say_7 rfl (lv_at hl 0 rfl) ?_
    refine lv_iconst (pc := 8) (v := (1 : Int32)) hx hb dX10_say_8 (by decide) ?_
    obtain ⟨v11, M12, e10, h⟩ := ob2 h
    obtain ⟨fs13, hb14⟩ := (rX10_error e10)
    refine bz_callV1 (pc := 9) (As := [.int (1 : Int32)]) (rest := []) X hM hl.1 k_RX10_78 (ctX10_error l e10) rfl hb14 rfl rfl ⟨(Nat.le_of_ble_eq_true rfl), (Nat.le_of_ble_eq_true rfl)⟩ (Nat.le_of_ble_eq_true rfl) ⟨(Nat.le_of_ble_eq_true rfl), (Nat.le_of_ble_eq_true rfl)⟩ dX10_say_9 (fun H locs hM => ?_)
    obtain ⟨rfl, rfl⟩ := so2 h
    exact bz_iret (pc := 12) X hM hr hlk dX10_say_12 (Nat.le_of_ble_eq_true rfl) (Nat.le_of_ble_eq_true rfl)
theorem rX10_say {N : Nat} {M : Mm} {a0 : Nat} {a1 : Int32} {r9 : Int32 × Mm} (h : fX10_say N M a0 a1 = some r9) : ∃ fs, M[a0]? = some (.inr (10, fs)) := by
  unfold fX10_say at h
  obtain ⟨_, e1, _⟩ := ob h
  exact gC_spec e1
theorem ctX10_say (l : Launch) {P : PT} {N : Nat} {M : Mm} {a0 : Nat} {a1 : Int32} {r9 : Int32} {M9 : Mm} (h : fX10_say N M a0 a1 = some (r9, M9)) : Ct l yX10_say cX10_say 7 (some .int) 6 0 P [.ref (pB P + a0), .int a1] M (some (.int r9)) M9 :=
  Ct.mk (by decide +kernel) (Nat.le_of_ble_eq_true rfl) (fun p e s m args below meth c hX => wX10_say hX M a0 a1 h)
set_option maxHeartbeats 4000000 in
set_option maxRecDepth 100000 in
theorem wjX11_say_82 {p : Program} {l : Launch} {e : Env} {s : State} {m : MethodId} {args : Array Value} {below : List Frame} {meth : Method} {c : Code} {P : PT} {N : Nat} {K25 : Mm → Nat → Int32 → Int64 → Int32 → Int32 → Option (Int32 × Mm)}  {r9 : Int32} {M9 : Mm} (hX : Cy p s m args c meth cX11_say 9 RX11 "say" (some .int) P)  (hK25 : ∀ (M : Mm) (x0 : Nat) (x1 : Int32) (x2 : Int64) (x4 : Int32) (x5 : Int32), K25 M x0 x1 x2 x4 x5 = some (r9, M9) → Wq p l e s m args below meth c 5 0 (some (.int r9)) M9 9 P 0 25 [(0, .ref (pB P + x0)), (1, .int x1), (2, .long x2), (4, .int x4), (5, .int x5)] [] M) (M : Mm) (x0 : Nat) (x1 : Int32) (x2 : Int64) (x4 : Int32) (x5 : Int32) (s0 : Int32) (h : jX11_say_82 N K25 M x0 x1 x2 x4 x5 s0 = some (r9, M9)) : Wq p l e s m args below meth c 5 0 (some (.int r9)) M9 9 P 0 82 [(0, .ref (pB P + x0)), (1, .int x1), (2, .long x2), (4, .int x4), (5, .int x5)] [.int s0] M := by
  unfold jX11_say_82 at h
  have hX0 := hX
  obtain ⟨X, hr, hlk, hnm⟩ := hX0
  have hx := X.1.1
  have hb := X.1.2.1
  intro H locs ls hM hl
  refine lv_istore (pc := 82) (lv' := [(8, .int s0), (0, .ref (pB P + x0)), (1, .int x1), (2, .long x2), (4, .int x4), (5, .int x5)]) hx hb dX11_say_82 hl (by decide) rfl (fun ls hl => ?_)
  refine lv_iload (pc := 84) hx hb dX11_say_84 (lv_at hl 0 rfl) ?_
  refine lv_iload (pc := 86) hx hb dX11_say_86 (lv_at hl 4 rfl) ?_
  refine lv_icmp_le (pc := 88) (tgt := 96) hx hb dX11_say_88 (by decide) (fun hc => ?_) (fun hc => ?_)
  · have h := if_t hc h
    refine lv_iload (pc := 96) hx hb dX11_say_96 (lv_at hl 4 rfl) ?_
    refine lv_istore (pc := 98) (lv' := [(4, .int x4), (8, .int s0), (0, .ref (pB P + x0)), (1, .int x1), (2, .long x2), (5, .int x5)]) hx hb dX11_say_98 hl (by decide) rfl (fun ls hl => ?_)
    refine lv_iinc (pc := 100) (v := (x5 + (1 : Int32))) (lv' := [(5, .int (x5 + (1 : Int32))), (4, .int x4), (8, .int s0), (0, .ref (pB P + x0)), (1, .int x1), (2, .long x2)]) hx hb dX11_say_100 hl (k := 5) rfl rfl (by decide) rfl (fun ls hl => ?_)
    refine lv_goto (pc := 103) (tgt := 25) hx hb dX11_say_103 (by decide) ?_
    exact hK25 _ _ _ _ _ _ h H locs ls hM (lv_sub hl [3, 4, 5, 1, 0] rfl)
  · have h := if_f hc h
    refine lv_iload (pc := 91) hx hb dX11_say_91 (lv_at hl 0 rfl) ?_
    refine lv_goto (pc := 93) (tgt := 98) hx hb dX11_say_93 (by decide) ?_
    refine lv_istore (pc := 98) (lv' := [(4, .int s0), (8, .int s0), (0, .ref (pB P + x0)), (1, .int x1), (2, .long x2), (5, .int x5)]) hx hb dX11_say_98 hl (by decide) rfl (fun ls hl => ?_)
    refine lv_iinc (pc := 100) (v := (x5 + (1 : Int32))) (lv' := [(5, .int (x5 + (1 : Int32))), (4, .int s0), (8, .int s0), (0, .ref (pB P + x0)), (1, .int x1), (2, .long x2)]) hx hb dX11_say_100 hl (k := 5) rfl rfl (by decide) rfl (fun ls hl => ?_)
    refine lv_goto (pc := 103) (tgt := 25) hx hb dX11_say_103 (by decide) ?_
    exact hK25 _ _ _ _ _ _ h H locs ls hM (lv_sub hl [3, 4, 5, 1, 0] rfl)
set_option maxHeartbeats 4000000 in
set_option maxRecDepth 100000 in
theorem wBX11_say_25 {p : Program} {l : Launch} {e : Env} {s : State} {m : MethodId} {args : Array Value} {below : List Frame} {meth : Method} {c : Code} {P : PT} {N : Nat} {K25 : Mm → Nat → Int32 → Int64 → Int32 → Int32 → Option (Int32 × Mm)}  {r9 : Int32} {M9 : Mm} (hX : Cy p s m args c meth cX11_say 9 RX11 "say" (some .int) P)  (hK25 : ∀ (M : Mm) (x0 : Nat) (x1 : Int32) (x2 : Int64) (x4 : Int32) (x5 : Int32), K25 M x0 x1 x2 x4 x5 = some (r9, M9) → Wq p l e s m args below meth c 5 0 (some (.int r9)) M9 9 P 0 25 [(0, .ref (pB P + x0)), (1, .int x1), (2, .long x2), (4, .int x4), (5, .int x5)] [] M) (M : Mm) (x0 : Nat) (x1 : Int32) (x2 : Int64) (x4 : Int32) (x5 : Int32)  (h : BX11_say_25 N K25 M x0 x1 x2 x4 x5 = some (r9, M9)) : Wq p l e s m args below meth c 5 0 (some (.int r9)) M9 9 P 0 25 [(0, .ref (pB P + x0)), (1, .int x1), (2, .long x2), (4, .int x4), (5, .int x5)] [] M := by
  unfold BX11_say_25 at h
  have hX0 := hX
  obtain ⟨X, hr, hlk, hnm⟩ := hX0
  have hx := X.1.1
  have hb := X.1.2.1
  intro H locs ls hM hl
  refine lv_iload (pc := 25) hx hb dX11_say_25 (lv_at hl 4 rfl) ?_
  refine lv_bipush (pc := 27) (v := (6 : Int32)) hx hb dX11_say_27 (by decide) ?_
  refine lv_icmp_ge (pc := 29) (tgt := 106) hx hb dX11_say_29 (by decide) (fun hc => ?_) (fun hc => ?_)
  · have h := if_t hc h
    refine lv_iload (pc := 106) hx hb dX11_say_106 (lv_at hl 3 rfl) ?_
    obtain ⟨rfl, rfl⟩ := so2 h
    exact bz_iret (pc := 108) X hM hr hlk dX11_say_108 (Nat.le_of_ble_eq_true rfl) (Nat.le_of_ble_eq_true rfl)
  · have h := if_f hc h
    refine lv_lload_n (pc := 32) hx hb dX11_say_32 rfl (lv_at hl 2 rfl) ?_
    refine lv_lconst (pc := 33) (v := (0 : Int64)) hx hb dX11_say_33 (by decide) ?_
    refine W.lcmp (pc := 34) hx hb dX11_say_34 ?_
    refine lv_if_le (pc := 35) (tgt := 106) hx hb dX11_say_35 (by decide) (fun hc => ?_) (fun hc => ?_)
    · have h := if_t hc h
      refine lv_iload (pc := 106) hx hb dX11_say_106 (lv_at hl 3 rfl) ?_
      obtain ⟨rfl, rfl⟩ := so2 h
      exact bz_iret (pc := 108) X hM hr hlk dX11_say_108 (Nat.le_of_ble_eq_true rfl) (Nat.le_of_ble_eq_true rfl)
    · have h := if_f hc h
      refine lv_aload_n (pc := 38) hx hb dX11_say_38 rfl (lv_at hl 0 rfl) ?_
      refine lv_iload (pc := 39) hx hb dX11_say_39 (lv_at hl 4 rfl) ?_
      refine lv_iload_n (pc := 41) hx hb dX11_say_41 rfl (lv_at hl 1 rfl) ?_
      obtain ⟨v2, M3, e1, h⟩ := ob2 h
      obtain ⟨fs4, hb5⟩ := (rX11_oddsOf e1)
      refine bz_callV1 (pc := 42) (As := [.int x5, .int x1]) (rest := []) X hM hl.1 k_RX11_299 (ctX11_oddsOf l e1) rfl hb5 rfl rfl ⟨(Nat.le_of_ble_eq_true rfl), (Nat.le_of_ble_eq_true rfl)⟩ (Nat.le_of_ble_eq_true rfl) ⟨(Nat.le_of_ble_eq_true rfl), (Nat.le_of_ble_eq_true rfl)⟩ dX11_say_42 (fun H locs hM => ?_)
      refine lv_lstore (pc := 45) (lv' := [(6, .long v2), (0, .ref (pB P + x0)), (1, .int x1), (2, .long x2), (4, .int x4), (5, .int x5)]) hx hb dX11_say_45 hl (by decide) rfl (fun ls hl => ?_)
      refine lv_ldc2 (pc := 47) (v := (10 : Int64)) hx hb X.1.2.2.2.1 (X.1.2.2.2.2 _ g_1626) dX11_say_47 ?_
      refine lv_lload (pc := 50) hx hb dX11_say_50 (lv_at hl 0 rfl) ?_
      refine lv_lmul (pc := 52) hx hb dX11_say_52 ?_
      refine lv_ldc2 (pc := 53) (v := (9 : Int64)) hx hb X.1.2.2.2.1 (X.1.2.2.2.2 _ g_1627) dX11_say_53 ?_
      refine lv_lload_n (pc := 56) hx hb dX11_say_56 rfl (lv_at hl 3 rfl) ?_
      refine lv_lmul (pc := 57) hx hb dX11_say_57 ?_
      refine W.lcmp (pc := 58) hx hb dX11_say_58 ?_
      refine lv_if_lt (pc := 59) (tgt := 66) hx hb dX11_say_59 (by decide) (fun hc => ?_) (fun hc => ?_)
      · have h := if_t hc h
        refine lv_ldc2 (pc := 66) (v := (2 : Int64)) hx hb X.1.2.2.2.1 (X.1.2.2.2.2 _ g_1271) dX11_say_66 ?_
        refine lv_lload (pc := 69) hx hb dX11_say_69 (lv_at hl 0 rfl) ?_
        refine lv_lmul (pc := 71) hx hb dX11_say_71 ?_
        refine lv_lload_n (pc := 72) hx hb dX11_say_72 rfl (lv_at hl 3 rfl) ?_
        refine W.lcmp (pc := 73) hx hb dX11_say_73 ?_
        refine lv_if_lt (pc := 74) (tgt := 81) hx hb dX11_say_74 (by decide) (fun hc => ?_) (fun hc => ?_)
        · have h := if_t hc h
          refine lv_iconst (pc := 81) (v := (0 : Int32)) hx hb dX11_say_81 (by decide) ?_
          exact wjX11_say_82 hX hK25 _ _ _ _ _ _ _ h H locs ls hM (lv_sub hl [1, 2, 3, 4, 5] rfl)
        · have h := if_f hc h
          refine lv_iconst (pc := 77) (v := (1 : Int32)) hx hb dX11_say_77 (by decide) ?_
          refine lv_goto (pc := 78) (tgt := 82) hx hb dX11_say_78 (by decide) ?_
          exact wjX11_say_82 hX hK25 _ _ _ _ _ _ _ h H locs ls hM (lv_sub hl [1, 2, 3, 4, 5] rfl)
      · have h := if_f hc h
        refine lv_iconst (pc := 62) (v := (2 : Int32)) hx hb dX11_say_62 (by decide) ?_
        refine lv_goto (pc := 63) (tgt := 82) hx hb dX11_say_63 (by decide) ?_
        exact wjX11_say_82 hX hK25 _ _ _ _ _ _ _ h H locs ls hM (lv_sub hl [1, 2, 3, 4, 5] rfl)
set_option maxHeartbeats 4000000 in
set_option maxRecDepth 100000 in
theorem wLX11_say_25 {p : Program} {l : Launch} {e : Env} {s : State} {m : MethodId} {args : Array Value} {below : List Frame} {meth : Method} {c : Code} {P : PT} {N : Nat}  {r9 : Int32} {M9 : Mm} (hX : Cy p s m args c meth cX11_say 9 RX11 "say" (some .int) P)   : ∀ (n : Nat) (M : Mm) (x0 : Nat) (x1 : Int32) (x2 : Int64) (x4 : Int32) (x5 : Int32) , LX11_say_25 N n M x0 x1 x2 x4 x5 = some (r9, M9) → Wq p l e s m args below meth c 5 0 (some (.int r9)) M9 9 P 0 25 [(0, .ref (pB P + x0)), (1, .int x1), (2, .long x2), (4, .int x4), (5, .int x5)] [] M := by
  intro n
  induction n with
  | zero => intro M x0 x1 x2 x4 x5 h; cases h
  | succ n ih => intro M x0 x1 x2 x4 x5 h; exact wBX11_say_25 hX ih M x0 x1 x2 x4 x5 h
set_option maxHeartbeats 4000000 in
set_option maxRecDepth 100000 in
theorem wX11_say {p : Program} {l : Launch} {e : Env} {s : State} {m : MethodId} {args : Array Value} {below : List Frame} {meth : Method} {c : Code} {P : PT} {N : Nat}  {r9 : Int32} {M9 : Mm} (hX : Cy p s m args c meth cX11_say 9 RX11 "say" (some .int) P)  (M : Mm) (a0 : Nat) (a1 : Int32) (h : fX11_say N M a0 a1 = some (r9, M9)) : Wq p l e s m args below meth c 5 0 (some (.int r9)) M9 9 P 0 0 [(0, .ref (pB P + a0)), (1, .int a1)] [] M := by
  unfold fX11_say at h
  obtain ⟨_, _, h⟩ := ob h
  have hX0 := hX
  obtain ⟨X, hr, hlk, hnm⟩ := hX0
  have hx := X.1.1
  have hb := X.1.2.1
  intro H locs ls hM hl
  refine lv_iload_n (pc := 0) hx hb dX11_say_0 rfl (lv_at hl 1 rfl) ?_
  obtain ⟨v2, e1, h⟩ := ob h
  refine bz_callS1 (pc := 1) (As := [.int a1]) (rest := []) X hM hl.1 k_RX11_296 (ctX11_isYear l e1) rfl rfl ⟨(Nat.le_of_ble_eq_true rfl), (Nat.le_of_ble_eq_true rfl)⟩ (Nat.le_of_ble_eq_true rfl) ⟨(Nat.le_of_ble_eq_true rfl), (Nat.le_of_ble_eq_true rfl)⟩ dX11_say_1 (fun H locs hM => ?_)
  refine lv_if_ne (pc := 4) (tgt := 13) hx hb dX11_say_4 (by decide) (fun hc => ?_) (fun hc => ?_)
  · have h := if_f hc h
    refine lv_aload_n (pc := 13) hx hb dX11_say_13 rfl (lv_at hl 0 rfl) ?_
    refine lv_iload_n (pc := 14) hx hb dX11_say_14 rfl (lv_at hl 1 rfl) ?_
    obtain ⟨v4, M5, e3, h⟩ := ob2 h
    obtain ⟨fs6, hb7⟩ := (rX11_oddsOfAll e3)
    refine bz_callV1 (pc := 15) (As := [.int a1]) (rest := []) X hM hl.1 k_RX11_303 (ctX11_oddsOfAll l e3) rfl hb7 rfl rfl ⟨(Nat.le_of_ble_eq_true rfl), (Nat.le_of_ble_eq_true rfl)⟩ (Nat.le_of_ble_eq_true rfl) ⟨(Nat.le_of_ble_eq_true rfl), (Nat.le_of_ble_eq_true rfl)⟩ dX11_say_15 (fun H locs hM => ?_)
    refine lv_lstore_n (pc := 18) (lv' := [(2, .long v4), (0, .ref (pB P + a0)), (1, .int a1)]) hx hb dX11_say_18 rfl hl (by decide) rfl (fun ls hl => ?_)
    refine lv_iconst (pc := 19) (v := (0 : Int32)) hx hb dX11_say_19 (by decide) ?_
    refine lv_istore (pc := 20) (lv' := [(4, .int (0 : Int32)), (2, .long v4), (0, .ref (pB P + a0)), (1, .int a1)]) hx hb dX11_say_20 hl (by decide) rfl (fun ls hl => ?_)
    refine lv_iconst (pc := 22) (v := (0 : Int32)) hx hb dX11_say_22 (by decide) ?_
    refine lv_istore (pc := 23) (lv' := [(5, .int (0 : Int32)), (4, .int (0 : Int32)), (2, .long v4), (0, .ref (pB P + a0)), (1, .int a1)]) hx hb dX11_say_23 hl (by decide) rfl (fun ls hl => ?_)
    exact wLX11_say_25 hX _ _ _ _ _ _ _ h H locs ls hM (lv_sub hl [3, 4, 2, 1, 0] rfl)
  · have h := if_t hc h
    refine lv_aload_n (pc := 7) hx hb dX11_say_7 rfl (lv_at hl 0 rfl) ?_
    refine lv_iconst (pc := 8) (v := (1 : Int32)) hx hb dX11_say_8 (by decide) ?_
    obtain ⟨v9, M10, e8, h⟩ := ob2 h
    obtain ⟨fs11, hb12⟩ := (rX11_error e8)
    refine bz_callV1 (pc := 9) (As := [.int (1 : Int32)]) (rest := []) X hM hl.1 k_RX11_73 (ctX11_error l e8) rfl hb12 rfl rfl ⟨(Nat.le_of_ble_eq_true rfl), (Nat.le_of_ble_eq_true rfl)⟩ (Nat.le_of_ble_eq_true rfl) ⟨(Nat.le_of_ble_eq_true rfl), (Nat.le_of_ble_eq_true rfl)⟩ dX11_say_9 (fun H locs hM => ?_)
    obtain ⟨rfl, rfl⟩ := so2 h
    exact bz_iret (pc := 12) X hM hr hlk dX11_say_12 (Nat.le_of_ble_eq_true rfl) (Nat.le_of_ble_eq_true rfl)
theorem rX11_say {N : Nat} {M : Mm} {a0 : Nat} {a1 : Int32} {r9 : Int32 × Mm} (h : fX11_say N M a0 a1 = some r9) : ∃ fs, M[a0]? = some (.inr (11, fs)) := by
  unfold fX11_say at h
  obtain ⟨_, e1, _⟩ := ob h
  exact gC_spec e1
theorem ctX11_say (l : Launch) {P : PT} {N : Nat} {M : Mm} {a0 : Nat} {a1 : Int32} {r9 : Int32} {M9 : Mm} (h : fX11_say N M a0 a1 = some (r9, M9)) : Ct l yX11_say cX11_say 9 (some .int) 5 0 P [.ref (pB P + a0), .int a1] M (some (.int r9)) M9 :=
  Ct.mk (by decide +kernel) (Nat.le_of_ble_eq_true rfl) (fun p e s m args below meth c hX => wX11_say hX M a0 a1 h)
