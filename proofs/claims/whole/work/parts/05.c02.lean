set_option maxHeartbeats 4000000 in
set_option maxRecDepth 100000 in
theorem wX3_raise {p : Program} {l : Launch} {e : Env} {s : State} {m : MethodId} {args : Array Value} {below : List Frame} {meth : Method} {c : Code} {P : PT}  {M9 : Mm} (hX : Cy p s m args c meth cX3_raise 3 RX3 "raise" none P)  (M : Mm) (a0 : Nat) (a1 : Int32) (a2 : Int32) (h : fX3_raise M a0 a1 a2 = some M9) : Wq p l e s m args below meth c 1 0 none M9 3 P 0 0 [(0, .ref (pB P + a0)), (1, .int a1), (2, .int a2)] [] M := by
  unfold fX3_raise at h
  obtain ⟨_, _, h⟩ := ob h
  have hX0 := hX
  obtain ⟨X, hr, hlk, hnm⟩ := hX0
  have hx := X.1.1
  have hb := X.1.2.1
  intro H locs ls hM hl
  refine lv_aload_n (pc := 0) hx hb dX3_raise_0 rfl (lv_at hl 0 rfl) ?_
  refine lv_iload_n (pc := 1) hx hb dX3_raise_1 rfl (lv_at hl 1 rfl) ?_
  obtain ⟨v2, e1, h⟩ := ob h
  obtain ⟨fs3, hb4⟩ := (rX3_has e1)
  refine bz_callV1 (pc := 2) (As := [.int a1]) (rest := []) X hM hl.1 k_RX3_30 (ctX3_has l e1) rfl hb4 rfl rfl ⟨(Nat.le_of_ble_eq_true rfl), (Nat.le_of_ble_eq_true rfl)⟩ (Nat.le_of_ble_eq_true rfl) ⟨(Nat.le_of_ble_eq_true rfl), (Nat.le_of_ble_eq_true rfl)⟩ dX3_raise_2 (fun H locs hM => ?_)
  refine lv_if_eq (pc := 5) (tgt := 18) hx hb dX3_raise_5 (by decide) (fun hc => ?_) (fun hc => ?_)
  · have h := if_t hc h
    obtain rfl := so1 h
    exact bz_vret (pc := 18) X hM hr hlk dX3_raise_18 (Nat.le_of_ble_eq_true rfl) (Nat.le_of_ble_eq_true rfl)
  · have h := if_f hc h
    refine lv_aload_n (pc := 8) hx hb dX3_raise_8 rfl (lv_at hl 0 rfl) ?_
    obtain ⟨q5, e6, h⟩ := ob h
    refine bz_getQ (pc := 9) X hM fl_RX3_13 e6 dX3_raise_9 ?_
    refine lv_iload_n (pc := 12) hx hb dX3_raise_12 rfl (lv_at hl 1 rfl) ?_
    refine lv_dup2_11 (pc := 13) hx hb dX3_raise_13 rfl rfl ?_
    obtain ⟨v7, e8, h⟩ := ob h
    refine bz_iald (pc := 14) X hM e8 dX3_raise_14 ?_
    refine lv_iload_n (pc := 15) hx hb dX3_raise_15 rfl (lv_at hl 2 rfl) ?_
    refine lv_iadd (pc := 16) hx hb dX3_raise_16 ?_
    obtain ⟨M9, e10, h⟩ := ob h
    refine bz_iast (pc := 17) X hM e10 dX3_raise_17 (fun H locs hM => ?_)
    obtain rfl := so1 h
    exact bz_vret (pc := 18) X hM hr hlk dX3_raise_18 (Nat.le_of_ble_eq_true rfl) (Nat.le_of_ble_eq_true rfl)
theorem rX3_raise {M : Mm} {a0 : Nat} {a1 : Int32} {a2 : Int32} {r9 : Mm} (h : fX3_raise M a0 a1 a2 = some r9) : ∃ fs, M[a0]? = some (.inr (3, fs)) := by
  unfold fX3_raise at h
  obtain ⟨_, e1, _⟩ := ob h
  exact gC_spec e1
theorem ctX3_raise (l : Launch) {P : PT} {M : Mm} {a0 : Nat} {a1 : Int32} {a2 : Int32} {M9 : Mm} (h : fX3_raise M a0 a1 a2 = some M9) : Ct l yX3_raise cX3_raise 3 none 1 0 P [.ref (pB P + a0), .int a1, .int a2] M none M9 :=
  Ct.mk (by decide +kernel) (Nat.le_of_ble_eq_true rfl) (fun p e s m args below meth c hX => wX3_raise hX M a0 a1 a2 h)
set_option maxHeartbeats 4000000 in
set_option maxRecDepth 100000 in
theorem wX10_error {p : Program} {l : Launch} {e : Env} {s : State} {m : MethodId} {args : Array Value} {below : List Frame} {meth : Method} {c : Code} {P : PT}  {r9 : Int32} {M9 : Mm} (hX : Cy p s m args c meth cX10_error 2 RX10 "error" (some .int) P)  (M : Mm) (a0 : Nat) (a1 : Int32) (h : fX10_error M a0 a1 = some (r9, M9)) : Wq p l e s m args below meth c 2 0 (some (.int r9)) M9 2 P 0 0 [(0, .ref (pB P + a0)), (1, .int a1)] [] M := by
  unfold fX10_error at h
  obtain ⟨_, _, h⟩ := ob h
  have hX0 := hX
  obtain ⟨X, hr, hlk, hnm⟩ := hX0
  have hx := X.1.1
  have hb := X.1.2.1
  intro H locs ls hM hl
  refine lv_aload_n (pc := 0) hx hb dX10_error_0 rfl (lv_at hl 0 rfl) ?_
  obtain ⟨q1, e2, h⟩ := ob h
  refine bz_getQ (pc := 1) X hM fl_RX10_24 e2 dX10_error_1 ?_
  refine lv_iload_n (pc := 4) hx hb dX10_error_4 rfl (lv_at hl 1 rfl) ?_
  refine lv_iconst (pc := 5) (v := (1 : Int32)) hx hb dX10_error_5 (by decide) ?_
  obtain ⟨M4, e3, h⟩ := ob h
  obtain ⟨fs5, hb6⟩ := (rX3_raise e3)
  refine bz_callV0 (pc := 6) (As := [.int a1, .int (1 : Int32)]) (rest := []) X hM hl.1 k_RX10_410 (ctX3_raise l e3) rfl hb6 rfl rfl ⟨(Nat.le_of_ble_eq_true rfl), (Nat.le_of_ble_eq_true rfl)⟩ (Nat.le_of_ble_eq_true rfl) ⟨(Nat.le_of_ble_eq_true rfl), (Nat.le_of_ble_eq_true rfl)⟩ dX10_error_6 (fun H locs hM => ?_)
  refine lv_ldcw (pc := 9) (v := (-1000000 : Int32)) hx hb X.1.2.2.2.1 (X.1.2.2.2.2 _ g_402) dX10_error_9 ?_
  refine lv_iload_n (pc := 12) hx hb dX10_error_12 rfl (lv_at hl 1 rfl) ?_
  refine lv_isub (pc := 13) hx hb dX10_error_13 ?_
  obtain ⟨rfl, rfl⟩ := so2 h
  exact bz_iret (pc := 14) X hM hr hlk dX10_error_14 (Nat.le_of_ble_eq_true rfl) (Nat.le_of_ble_eq_true rfl)
theorem rX10_error {M : Mm} {a0 : Nat} {a1 : Int32} {r9 : Int32 × Mm} (h : fX10_error M a0 a1 = some r9) : ∃ fs, M[a0]? = some (.inr (10, fs)) := by
  unfold fX10_error at h
  obtain ⟨_, e1, _⟩ := ob h
  exact gC_spec e1
theorem ctX10_error (l : Launch) {P : PT} {M : Mm} {a0 : Nat} {a1 : Int32} {r9 : Int32} {M9 : Mm} (h : fX10_error M a0 a1 = some (r9, M9)) : Ct l yX10_error cX10_error 2 (some .int) 2 0 P [.ref (pB P + a0), .int a1] M (some (.int r9)) M9 :=
  Ct.mk (by decide +kernel) (Nat.le_of_ble_eq_true rfl) (fun p e s m args below meth c hX => wX10_error hX M a0 a1 h)
set_option maxHeartbeats 4000000 in
set_option maxRecDepth 100000 in
theorem wX3_exchange {p : Program} {l : Launch} {e : Env} {s : State} {m : MethodId} {args : Array Value} {below : List Frame} {meth : Method} {c : Code} {P : PT}  {r9 : Int32} {M9 : Mm} (hX : Cy p s m args c meth cX3_exchange 4 RX3 "exchange" (some .int) P)  (M : Mm) (a0 : Nat) (a1 : Int32) (a2 : Int32) (h : fX3_exchange M a0 a1 a2 = some (r9, M9)) : Wq p l e s m args below meth c 1 0 (some (.int r9)) M9 4 P 0 0 [(0, .ref (pB P + a0)), (1, .int a1), (2, .int a2)] [] M := by
  unfold fX3_exchange at h
  obtain ⟨_, _, h⟩ := ob h
  have hX0 := hX
  obtain ⟨X, hr, hlk, hnm⟩ := hX0
  have hx := X.1.1
  have hb := X.1.2.1
  intro H locs ls hM hl
  refine lv_aload_n (pc := 0) hx hb dX3_exchange_0 rfl (lv_at hl 0 rfl) ?_
  refine lv_iload_n (pc := 1) hx hb dX3_exchange_1 rfl (lv_at hl 1 rfl) ?_
  obtain ⟨v2, e1, h⟩ := ob h
  obtain ⟨fs3, hb4⟩ := (rX3_has e1)
  refine bz_callV1 (pc := 2) (As := [.int a1]) (rest := []) X hM hl.1 k_RX3_30 (ctX3_has l e1) rfl hb4 rfl rfl ⟨(Nat.le_of_ble_eq_true rfl), (Nat.le_of_ble_eq_true rfl)⟩ (Nat.le_of_ble_eq_true rfl) ⟨(Nat.le_of_ble_eq_true rfl), (Nat.le_of_ble_eq_true rfl)⟩ dX3_exchange_2 (fun H locs hM => ?_)
  refine lv_if_ne (pc := 5) (tgt := 10) hx hb dX3_exchange_5 (by decide) (fun hc => ?_) (fun hc => ?_)
  · have h := if_f hc h
    refine lv_aload_n (pc := 10) hx hb dX3_exchange_10 rfl (lv_at hl 0 rfl) ?_
    obtain ⟨q5, e6, h⟩ := ob h
    refine bz_getQ (pc := 11) X hM fl_RX3_13 e6 dX3_exchange_11 ?_
    refine lv_iload_n (pc := 14) hx hb dX3_exchange_14 rfl (lv_at hl 1 rfl) ?_
    obtain ⟨v7, e8, h⟩ := ob h
    refine bz_iald (pc := 15) X hM e8 dX3_exchange_15 ?_
    refine lv_istore_n (pc := 16) (lv' := [(3, .int v7), (0, .ref (pB P + a0)), (1, .int a1), (2, .int a2)]) hx hb dX3_exchange_16 rfl hl (by decide) rfl (fun ls hl => ?_)
    refine lv_aload_n (pc := 17) hx hb dX3_exchange_17 rfl (lv_at hl 1 rfl) ?_
    obtain ⟨q9, e10, h⟩ := ob h
    refine bz_getQ (pc := 18) X hM fl_RX3_13 e10 dX3_exchange_18 ?_
    refine lv_iload_n (pc := 21) hx hb dX3_exchange_21 rfl (lv_at hl 2 rfl) ?_
    refine lv_iload_n (pc := 22) hx hb dX3_exchange_22 rfl (lv_at hl 3 rfl) ?_
    obtain ⟨M11, e12, h⟩ := ob h
    refine bz_iast (pc := 23) X hM e12 dX3_exchange_23 (fun H locs hM => ?_)
    refine lv_iload_n (pc := 24) hx hb dX3_exchange_24 rfl (lv_at hl 0 rfl) ?_
    obtain ⟨rfl, rfl⟩ := so2 h
    exact bz_iret (pc := 25) X hM hr hlk dX3_exchange_25 (Nat.le_of_ble_eq_true rfl) (Nat.le_of_ble_eq_true rfl)
  · have h := if_t hc h
    refine lv_iconst (pc := 8) (v := (0 : Int32)) hx hb dX3_exchange_8 (by decide) ?_
    obtain ⟨rfl, rfl⟩ := so2 h
    exact bz_iret (pc := 9) X hM hr hlk dX3_exchange_9 (Nat.le_of_ble_eq_true rfl) (Nat.le_of_ble_eq_true rfl)
theorem rX3_exchange {M : Mm} {a0 : Nat} {a1 : Int32} {a2 : Int32} {r9 : Int32 × Mm} (h : fX3_exchange M a0 a1 a2 = some r9) : ∃ fs, M[a0]? = some (.inr (3, fs)) := by
  unfold fX3_exchange at h
  obtain ⟨_, e1, _⟩ := ob h
  exact gC_spec e1
theorem ctX3_exchange (l : Launch) {P : PT} {M : Mm} {a0 : Nat} {a1 : Int32} {a2 : Int32} {r9 : Int32} {M9 : Mm} (h : fX3_exchange M a0 a1 a2 = some (r9, M9)) : Ct l yX3_exchange cX3_exchange 4 (some .int) 1 0 P [.ref (pB P + a0), .int a1, .int a2] M (some (.int r9)) M9 :=
  Ct.mk (by decide +kernel) (Nat.le_of_ble_eq_true rfl) (fun p e s m args below meth c hX => wX3_exchange hX M a0 a1 a2 h)
set_option maxHeartbeats 4000000 in
set_option maxRecDepth 100000 in
theorem wjX10_clock_22 {p : Program} {l : Launch} {e : Env} {s : State} {m : MethodId} {args : Array Value} {below : List Frame} {meth : Method} {c : Code} {P : PT}  {r9 : Int32} {M9 : Mm} (hX : Cy p s m args c meth cX10_clock 3 RX10 "clock" (some .int) P)   (M : Mm) (x0 : Nat)  (h : jX10_clock_22 M x0 = some (r9, M9)) : Wq p l e s m args below meth c 3 0 (some (.int r9)) M9 3 P 0 22 [(0, .ref (pB P + x0))] [] M := by
  unfold jX10_clock_22 at h
  have hX0 := hX
  obtain ⟨X, hr, hlk, hnm⟩ := hX0
  have hx := X.1.1
  have hb := X.1.2.1
  intro H locs ls hM hl
  refine lv_aload_n (pc := 22) hx hb dX10_clock_22 rfl (lv_at hl 0 rfl) ?_
  refine lv_iconst (pc := 23) (v := (1 : Int32)) hx hb dX10_clock_23 (by decide) ?_
  obtain ⟨v2, M3, e1, h⟩ := ob2 h
  obtain ⟨fs4, hb5⟩ := (rX10_error e1)
  refine bz_callV1 (pc := 24) (As := [.int (1 : Int32)]) (rest := []) X hM hl.1 k_RX10_78 (ctX10_error l e1) rfl hb5 rfl rfl ⟨(Nat.le_of_ble_eq_true rfl), (Nat.le_of_ble_eq_true rfl)⟩ (Nat.le_of_ble_eq_true rfl) ⟨(Nat.le_of_ble_eq_true rfl), (Nat.le_of_ble_eq_true rfl)⟩ dX10_clock_24 (fun H locs hM => ?_)
  obtain ⟨rfl, rfl⟩ := so2 h
  exact bz_iret (pc := 27) X hM hr hlk dX10_clock_27 (Nat.le_of_ble_eq_true rfl) (Nat.le_of_ble_eq_true rfl)
set_option maxHeartbeats 4000000 in
set_option maxRecDepth 100000 in
theorem wX10_clock {p : Program} {l : Launch} {e : Env} {s : State} {m : MethodId} {args : Array Value} {below : List Frame} {meth : Method} {c : Code} {P : PT}  {r9 : Int32} {M9 : Mm} (hX : Cy p s m args c meth cX10_clock 3 RX10 "clock" (some .int) P)  (M : Mm) (a0 : Nat) (a1 : Int32) (a2 : Int32) (h : fX10_clock M a0 a1 a2 = some (r9, M9)) : Wq p l e s m args below meth c 3 0 (some (.int r9)) M9 3 P 0 0 [(0, .ref (pB P + a0)), (1, .int a1), (2, .int a2)] [] M := by
  unfold fX10_clock at h
  obtain ⟨_, _, h⟩ := ob h
  have hX0 := hX
  obtain ⟨X, hr, hlk, hnm⟩ := hX0
  have hx := X.1.1
  have hb := X.1.2.1
  intro H locs ls hM hl
  refine lv_iload_n (pc := 0) hx hb dX10_clock_0 rfl (lv_at hl 1 rfl) ?_
  refine lv_iconst (pc := 1) (v := (0 : Int32)) hx hb dX10_clock_1 (by decide) ?_
  refine lv_iconst (pc := 2) (v := (2 : Int32)) hx hb dX10_clock_2 (by decide) ?_
  obtain ⟨v2, e1, h⟩ := ob h
  refine bz_callS1 (pc := 3) (As := [.int a1, .int (0 : Int32), .int (2 : Int32)]) (rest := []) X hM hl.1 k_RX10_74 (ctX10_within l e1) rfl rfl ⟨(Nat.le_of_ble_eq_true rfl), (Nat.le_of_ble_eq_true rfl)⟩ (Nat.le_of_ble_eq_true rfl) ⟨(Nat.le_of_ble_eq_true rfl), (Nat.le_of_ble_eq_true rfl)⟩ dX10_clock_3 (fun H locs hM => ?_)
  refine lv_if_eq (pc := 6) (tgt := 22) hx hb dX10_clock_6 (by decide) (fun hc => ?_) (fun hc => ?_)
  · have h := if_t hc h
    exact wjX10_clock_22 hX _ _ h H locs ls hM (lv_sub hl [0] rfl)
  · have h := if_f hc h
    refine lv_iload_n (pc := 9) hx hb dX10_clock_9 rfl (lv_at hl 2 rfl) ?_
    refine lv_sipush (pc := 10) (v := (-999 : Int32)) hx hb dX10_clock_10 (by decide) ?_
    refine lv_sipush (pc := 13) (v := (999 : Int32)) hx hb dX10_clock_13 (by decide) ?_
    obtain ⟨v4, e3, h⟩ := ob h
    refine bz_callS1 (pc := 16) (As := [.int a2, .int (-999 : Int32), .int (999 : Int32)]) (rest := []) X hM hl.1 k_RX10_74 (ctX10_within l e3) rfl rfl ⟨(Nat.le_of_ble_eq_true rfl), (Nat.le_of_ble_eq_true rfl)⟩ (Nat.le_of_ble_eq_true rfl) ⟨(Nat.le_of_ble_eq_true rfl), (Nat.le_of_ble_eq_true rfl)⟩ dX10_clock_16 (fun H locs hM => ?_)
    refine lv_if_ne (pc := 19) (tgt := 28) hx hb dX10_clock_19 (by decide) (fun hc => ?_) (fun hc => ?_)
    · have h := if_f hc h
      refine lv_aload_n (pc := 28) hx hb dX10_clock_28 rfl (lv_at hl 0 rfl) ?_
      obtain ⟨q5, e6, h⟩ := ob h
      refine bz_getQ (pc := 29) X hM fl_RX10_10 e6 dX10_clock_29 ?_
      obtain ⟨q7, e8, h⟩ := ob h
      refine bz_getQ (pc := 32) X hM fl_RX10_82 e8 dX10_clock_32 ?_
      refine lv_iload_n (pc := 35) hx hb dX10_clock_35 rfl (lv_at hl 1 rfl) ?_
      refine lv_iload_n (pc := 36) hx hb dX10_clock_36 rfl (lv_at hl 2 rfl) ?_
      obtain ⟨v10, M11, e9, h⟩ := ob2 h
      obtain ⟨fs12, hb13⟩ := (rX3_exchange e9)
      refine bz_callV1 (pc := 37) (As := [.int a1, .int a2]) (rest := []) X hM hl.1 k_RX10_85 (ctX3_exchange l e9) rfl hb13 rfl rfl ⟨(Nat.le_of_ble_eq_true rfl), (Nat.le_of_ble_eq_true rfl)⟩ (Nat.le_of_ble_eq_true rfl) ⟨(Nat.le_of_ble_eq_true rfl), (Nat.le_of_ble_eq_true rfl)⟩ dX10_clock_37 (fun H locs hM => ?_)
      obtain ⟨rfl, rfl⟩ := so2 h
      exact bz_iret (pc := 40) X hM hr hlk dX10_clock_40 (Nat.le_of_ble_eq_true rfl) (Nat.le_of_ble_eq_true rfl)
    · have h := if_t hc h
      exact wjX10_clock_22 hX _ _ h H locs ls hM (lv_sub hl [0] rfl)
theorem rX10_clock {M : Mm} {a0 : Nat} {a1 : Int32} {a2 : Int32} {r9 : Int32 × Mm} (h : fX10_clock M a0 a1 a2 = some r9) : ∃ fs, M[a0]? = some (.inr (10, fs)) := by
  unfold fX10_clock at h
  obtain ⟨_, e1, _⟩ := ob h
  exact gC_spec e1
theorem ctX10_clock (l : Launch) {P : PT} {M : Mm} {a0 : Nat} {a1 : Int32} {a2 : Int32} {r9 : Int32} {M9 : Mm} (h : fX10_clock M a0 a1 a2 = some (r9, M9)) : Ct l yX10_clock cX10_clock 3 (some .int) 3 0 P [.ref (pB P + a0), .int a1, .int a2] M (some (.int r9)) M9 :=
  Ct.mk (by decide +kernel) (Nat.le_of_ble_eq_true rfl) (fun p e s m args below meth c hX => wX10_clock hX M a0 a1 a2 h)
set_option maxHeartbeats 4000000 in
set_option maxRecDepth 100000 in
theorem wX11_in {p : Program} {l : Launch} {e : Env} {s : State} {m : MethodId} {args : Array Value} {below : List Frame} {meth : Method} {c : Code} {P : PT}  {r9 : Int32} (hX : Cy p s m args c meth cX11_in 6 RX11 "in" (some .boolean) P)  (M : Mm) (a0 : Int64) (a2 : Int64) (a4 : Int64) (h : fX11_in M a0 a2 a4 = some r9) : Wq p l e s m args below meth c 0 0 (some (.int r9)) M 6 P 0 0 [(0, .long a0), (2, .long a2), (4, .long a4)] [] M := by
  unfold fX11_in at h
  have hX0 := hX
  obtain ⟨X, hr, hlk, hnm⟩ := hX0
  have hx := X.1.1
  have hb := X.1.2.1
  intro H locs ls hM hl
  refine lv_lload_n (pc := 0) hx hb dX11_in_0 rfl (lv_at hl 0 rfl) ?_
  refine lv_lload_n (pc := 1) hx hb dX11_in_1 rfl (lv_at hl 1 rfl) ?_
  refine W.lcmp (pc := 2) hx hb dX11_in_2 ?_
  refine lv_if_lt (pc := 3) (tgt := 17) hx hb dX11_in_3 (by decide) (fun hc => ?_) (fun hc => ?_)
  · have h := if_t hc h
    refine lv_iconst (pc := 17) (v := (0 : Int32)) hx hb dX11_in_17 (by decide) ?_
    obtain rfl := so1 h
    exact bz_zret (pc := 18) X hM hr hlk (by decide) dX11_in_18 (Nat.le_of_ble_eq_true rfl) (Nat.le_of_ble_eq_true rfl)
  · have h := if_f hc h
    refine lv_lload_n (pc := 6) hx hb dX11_in_6 rfl (lv_at hl 0 rfl) ?_
    refine lv_lload (pc := 7) hx hb dX11_in_7 (lv_at hl 2 rfl) ?_
    refine W.lcmp (pc := 9) hx hb dX11_in_9 ?_
    refine lv_if_gt (pc := 10) (tgt := 17) hx hb dX11_in_10 (by decide) (fun hc => ?_) (fun hc => ?_)
    · have h := if_t hc h
      refine lv_iconst (pc := 17) (v := (0 : Int32)) hx hb dX11_in_17 (by decide) ?_
      obtain rfl := so1 h
      exact bz_zret (pc := 18) X hM hr hlk (by decide) dX11_in_18 (Nat.le_of_ble_eq_true rfl) (Nat.le_of_ble_eq_true rfl)
    · have h := if_f hc h
      refine lv_iconst (pc := 13) (v := (1 : Int32)) hx hb dX11_in_13 (by decide) ?_
      refine lv_goto (pc := 14) (tgt := 18) hx hb dX11_in_14 (by decide) ?_
      obtain rfl := so1 h
      exact bz_zret (pc := 18) X hM hr hlk (by decide) dX11_in_18 (Nat.le_of_ble_eq_true rfl) (Nat.le_of_ble_eq_true rfl)
theorem ctX11_in (l : Launch) {P : PT} {M : Mm} {a0 : Int64} {a2 : Int64} {a4 : Int64} {r9 : Int32} (h : fX11_in M a0 a2 a4 = some r9) : Ct l yX11_in cX11_in 6 (some .boolean) 0 0 P [.long a0, .long a2, .long a4] M (some (.int r9)) M :=
  Ct.mk (by decide +kernel) (Nat.le_of_ble_eq_true rfl) (fun p e s m args below meth c hX => wX11_in hX M a0 a2 a4 h)
set_option maxHeartbeats 4000000 in
set_option maxRecDepth 100000 in
theorem wX11_error {p : Program} {l : Launch} {e : Env} {s : State} {m : MethodId} {args : Array Value} {below : List Frame} {meth : Method} {c : Code} {P : PT}  {r9 : Int32} {M9 : Mm} (hX : Cy p s m args c meth cX11_error 2 RX11 "error" (some .int) P)  (M : Mm) (a0 : Nat) (a1 : Int32) (h : fX11_error M a0 a1 = some (r9, M9)) : Wq p l e s m args below meth c 0 0 (some (.int r9)) M9 2 P 0 0 [(0, .ref (pB P + a0)), (1, .int a1)] [] M := by
  unfold fX11_error at h
  obtain ⟨_, _, h⟩ := ob h
  have hX0 := hX
  obtain ⟨X, hr, hlk, hnm⟩ := hX0
  have hx := X.1.1
  have hb := X.1.2.1
  intro H locs ls hM hl
  refine lv_aload_n (pc := 0) hx hb dX11_error_0 rfl (lv_at hl 0 rfl) ?_
  obtain ⟨q1, e2, h⟩ := ob h
  refine bz_getQ (pc := 1) X hM fl_RX11_16 e2 dX11_error_1 ?_
  refine lv_iload_n (pc := 4) hx hb dX11_error_4 rfl (lv_at hl 1 rfl) ?_
  refine lv_dup2_11 (pc := 5) hx hb dX11_error_5 rfl rfl ?_
  obtain ⟨v3, e4, h⟩ := ob h
  refine bz_iald (pc := 6) X hM e4 dX11_error_6 ?_
  refine lv_iconst (pc := 7) (v := (1 : Int32)) hx hb dX11_error_7 (by decide) ?_
  refine lv_iadd (pc := 8) hx hb dX11_error_8 ?_
  obtain ⟨M5, e6, h⟩ := ob h
  refine bz_iast (pc := 9) X hM e6 dX11_error_9 (fun H locs hM => ?_)
  refine lv_ldc (pc := 10) (v := (-1000000 : Int32)) hx hb X.1.2.2.2.1 (X.1.2.2.2.2 _ g_1281) dX11_error_10 ?_
  refine lv_iload_n (pc := 12) hx hb dX11_error_12 rfl (lv_at hl 1 rfl) ?_
  refine lv_isub (pc := 13) hx hb dX11_error_13 ?_
  obtain ⟨rfl, rfl⟩ := so2 h
  exact bz_iret (pc := 14) X hM hr hlk dX11_error_14 (Nat.le_of_ble_eq_true rfl) (Nat.le_of_ble_eq_true rfl)
theorem rX11_error {M : Mm} {a0 : Nat} {a1 : Int32} {r9 : Int32 × Mm} (h : fX11_error M a0 a1 = some r9) : ∃ fs, M[a0]? = some (.inr (11, fs)) := by
  unfold fX11_error at h
  obtain ⟨_, e1, _⟩ := ob h
  exact gC_spec e1
theorem ctX11_error (l : Launch) {P : PT} {M : Mm} {a0 : Nat} {a1 : Int32} {r9 : Int32} {M9 : Mm} (h : fX11_error M a0 a1 = some (r9, M9)) : Ct l yX11_error cX11_error 2 (some .int) 0 0 P [.ref (pB P + a0), .int a1] M (some (.int r9)) M9 :=
  Ct.mk (by decide +kernel) (Nat.le_of_ble_eq_true rfl) (fun p e s m args below meth c hX => wX11_error hX M a0 a1 h)
set_option maxHeartbeats 4000000 in
set_option maxRecDepth 100000 in
theorem wjX11_clock_26 {p : Program} {l : Launch} {e : Env} {s : State} {m : MethodId} {args : Array Value} {below : List Frame} {meth : Method} {c : Code} {P : PT}  {r9 : Int32} {M9 : Mm} (hX : Cy p s m args c meth cX11_clock 4 RX11 "clock" (some .int) P)   (M : Mm) (x0 : Nat)  (h : jX11_clock_26 M x0 = some (r9, M9)) : Wq p l e s m args below meth c 1 0 (some (.int r9)) M9 4 P 0 26 [(0, .ref (pB P + x0))] [] M := by
  unfold jX11_clock_26 at h
  have hX0 := hX
  obtain ⟨X, hr, hlk, hnm⟩ := hX0
  have hx := X.1.1
  have hb := X.1.2.1
  intro H locs ls hM hl
  refine lv_aload_n (pc := 26) hx hb dX11_clock_26 rfl (lv_at hl 0 rfl) ?_
  refine lv_iconst (pc := 27) (v := (1 : Int32)) hx hb dX11_clock_27 (by decide) ?_
  obtain ⟨v2, M3, e1, h⟩ := ob2 h
  obtain ⟨fs4, hb5⟩ := (rX11_error e1)
  refine bz_callV1 (pc := 28) (As := [.int (1 : Int32)]) (rest := []) X hM hl.1 k_RX11_73 (ctX11_error l e1) rfl hb5 rfl rfl ⟨(Nat.le_of_ble_eq_true rfl), (Nat.le_of_ble_eq_true rfl)⟩ (Nat.le_of_ble_eq_true rfl) ⟨(Nat.le_of_ble_eq_true rfl), (Nat.le_of_ble_eq_true rfl)⟩ dX11_clock_28 (fun H locs hM => ?_)
  obtain ⟨rfl, rfl⟩ := so2 h
  exact bz_iret (pc := 31) X hM hr hlk dX11_clock_31 (Nat.le_of_ble_eq_true rfl) (Nat.le_of_ble_eq_true rfl)
set_option maxHeartbeats 4000000 in
set_option maxRecDepth 100000 in
theorem wX11_clock {p : Program} {l : Launch} {e : Env} {s : State} {m : MethodId} {args : Array Value} {below : List Frame} {meth : Method} {c : Code} {P : PT}  {r9 : Int32} {M9 : Mm} (hX : Cy p s m args c meth cX11_clock 4 RX11 "clock" (some .int) P)  (M : Mm) (a0 : Nat) (a1 : Int32) (a2 : Int32) (h : fX11_clock M a0 a1 a2 = some (r9, M9)) : Wq p l e s m args below meth c 1 0 (some (.int r9)) M9 4 P 0 0 [(0, .ref (pB P + a0)), (1, .int a1), (2, .int a2)] [] M := by
  unfold fX11_clock at h
  obtain ⟨_, _, h⟩ := ob h
  have hX0 := hX
  obtain ⟨X, hr, hlk, hnm⟩ := hX0
  have hx := X.1.1
  have hb := X.1.2.1
  intro H locs ls hM hl
  refine lv_iload_n (pc := 0) hx hb dX11_clock_0 rfl (lv_at hl 1 rfl) ?_
  refine lv_i2l (pc := 1) (v := ((a1).toInt64)) hx hb dX11_clock_1 rfl ?_
  refine lv_lconst (pc := 2) (v := (0 : Int64)) hx hb dX11_clock_2 (by decide) ?_
  refine lv_ldc2 (pc := 3) (v := (2 : Int64)) hx hb X.1.2.2.2.1 (X.1.2.2.2.2 _ g_1271) dX11_clock_3 ?_
  obtain ⟨v2, e1, h⟩ := ob h
  refine bz_callS1 (pc := 6) (As := [.long ((a1).toInt64), .long (0 : Int64), .long (2 : Int64)]) (rest := []) X hM hl.1 k_RX11_57 (ctX11_in l e1) rfl rfl ⟨(Nat.le_of_ble_eq_true rfl), (Nat.le_of_ble_eq_true rfl)⟩ (Nat.le_of_ble_eq_true rfl) ⟨(Nat.le_of_ble_eq_true rfl), (Nat.le_of_ble_eq_true rfl)⟩ dX11_clock_6 (fun H locs hM => ?_)
  refine lv_if_eq (pc := 9) (tgt := 26) hx hb dX11_clock_9 (by decide) (fun hc => ?_) (fun hc => ?_)
  · have h := if_t hc h
    exact wjX11_clock_26 hX _ _ h H locs ls hM (lv_sub hl [0] rfl)
  · have h := if_f hc h
    refine lv_iload_n (pc := 12) hx hb dX11_clock_12 rfl (lv_at hl 2 rfl) ?_
    refine lv_i2l (pc := 13) (v := ((a2).toInt64)) hx hb dX11_clock_13 rfl ?_
    refine lv_ldc2 (pc := 14) (v := (-999 : Int64)) hx hb X.1.2.2.2.1 (X.1.2.2.2.2 _ g_1275) dX11_clock_14 ?_
    refine lv_ldc2 (pc := 17) (v := (999 : Int64)) hx hb X.1.2.2.2.1 (X.1.2.2.2.2 _ g_1276) dX11_clock_17 ?_
    obtain ⟨v4, e3, h⟩ := ob h
    refine bz_callS1 (pc := 20) (As := [.long ((a2).toInt64), .long (-999 : Int64), .long (999 : Int64)]) (rest := []) X hM hl.1 k_RX11_57 (ctX11_in l e3) rfl rfl ⟨(Nat.le_of_ble_eq_true rfl), (Nat.le_of_ble_eq_true rfl)⟩ (Nat.le_of_ble_eq_true rfl) ⟨(Nat.le_of_ble_eq_true rfl), (Nat.le_of_ble_eq_true rfl)⟩ dX11_clock_20 (fun H locs hM => ?_)
    refine lv_if_ne (pc := 23) (tgt := 32) hx hb dX11_clock_23 (by decide) (fun hc => ?_) (fun hc => ?_)
    · have h := if_f hc h
      refine lv_aload_n (pc := 32) hx hb dX11_clock_32 rfl (lv_at hl 0 rfl) ?_
      obtain ⟨q5, e6, h⟩ := ob h
      refine bz_getQ (pc := 33) X hM fl_RX11_9 e6 dX11_clock_33 ?_
      refine lv_bipush (pc := 36) (v := (9 : Int32)) hx hb dX11_clock_36 (by decide) ?_
      refine lv_iload_n (pc := 38) hx hb dX11_clock_38 rfl (lv_at hl 1 rfl) ?_
      refine lv_iadd (pc := 39) hx hb dX11_clock_39 ?_
      obtain ⟨v7, e8, h⟩ := ob h
      refine bz_iald (pc := 40) X hM e8 dX11_clock_40 ?_
      refine lv_istore_n (pc := 41) (lv' := [(3, .int v7), (0, .ref (pB P + a0)), (1, .int a1), (2, .int a2)]) hx hb dX11_clock_41 rfl hl (by decide) rfl (fun ls hl => ?_)
      refine lv_aload_n (pc := 42) hx hb dX11_clock_42 rfl (lv_at hl 1 rfl) ?_
      obtain ⟨q9, e10, h⟩ := ob h
      refine bz_getQ (pc := 43) X hM fl_RX11_9 e10 dX11_clock_43 ?_
      refine lv_bipush (pc := 46) (v := (9 : Int32)) hx hb dX11_clock_46 (by decide) ?_
      refine lv_iload_n (pc := 48) hx hb dX11_clock_48 rfl (lv_at hl 2 rfl) ?_
      refine lv_iadd (pc := 49) hx hb dX11_clock_49 ?_
      refine lv_iload_n (pc := 50) hx hb dX11_clock_50 rfl (lv_at hl 3 rfl) ?_
      obtain ⟨M11, e12, h⟩ := ob h
      refine bz_iast (pc := 51) X hM e12 dX11_clock_51 (fun H locs hM => ?_)
      refine lv_iload_n (pc := 52) hx hb dX11_clock_52 rfl (lv_at hl 0 rfl) ?_
      obtain ⟨rfl, rfl⟩ := so2 h
      exact bz_iret (pc := 53) X hM hr hlk dX11_clock_53 (Nat.le_of_ble_eq_true rfl) (Nat.le_of_ble_eq_true rfl)
    · have h := if_t hc h
      exact wjX11_clock_26 hX _ _ h H locs ls hM (lv_sub hl [0] rfl)
theorem rX11_clock {M : Mm} {a0 : Nat} {a1 : Int32} {a2 : Int32} {r9 : Int32 × Mm} (h : fX11_clock M a0 a1 a2 = some r9) : ∃ fs, M[a0]? = some (.inr (11, fs)) := by
  unfold fX11_clock at h
  obtain ⟨_, e1, _⟩ := ob h
  exact gC_spec e1
theorem ctX11_clock (l : Launch) {P : PT} {M : Mm} {a0 : Nat} {a1 : Int32} {a2 : Int32} {r9 : Int32} {M9 : Mm} (h : fX11_clock M a0 a1 a2 = some (r9, M9)) : Ct l yX11_clock cX11_clock 4 (some .int) 1 0 P [.ref (pB P + a0), .int a1, .int a2] M (some (.int r9)) M9 :=
  Ct.mk (by decide +kernel) (Nat.le_of_ble_eq_true rfl) (fun p e s m args below meth c hX => wX11_clock hX M a0 a1 a2 h)
set_option maxHeartbeats 4000000 in
set_option maxRecDepth 100000 in
theorem wX3_size {p : Program} {l : Launch} {e : Env} {s : State} {m : MethodId} {args : Array Value} {below : List Frame} {meth : Method} {c : Code} {P : PT}  {r9 : Int32} (hX : Cy p s m args c meth cX3_size 1 RX3 "size" (some .int) P)  (M : Mm) (a0 : Nat) (h : fX3_size M a0 = some r9) : Wq p l e s m args below meth c 0 0 (some (.int r9)) M 1 P 0 0 [(0, .ref (pB P + a0))] [] M := by
  unfold fX3_size at h
  obtain ⟨_, _, h⟩ := ob h
  have hX0 := hX
  obtain ⟨X, hr, hlk, hnm⟩ := hX0
  have hx := X.1.1
  have hb := X.1.2.1
  intro H locs ls hM hl
  refine lv_aload_n (pc := 0) hx hb dX3_size_0 rfl (lv_at hl 0 rfl) ?_
  obtain ⟨v1, e2, h⟩ := ob h
  refine bz_getI (pc := 1) X hM fl_RX3_19 e2 dX3_size_1 ?_
  obtain rfl := so1 h
  exact bz_iret (pc := 4) X hM hr hlk dX3_size_4 (Nat.le_of_ble_eq_true rfl) (Nat.le_of_ble_eq_true rfl)
theorem rX3_size {M : Mm} {a0 : Nat} {r9 : Int32} (h : fX3_size M a0 = some r9) : ∃ fs, M[a0]? = some (.inr (3, fs)) := by
  unfold fX3_size at h
  obtain ⟨_, e1, _⟩ := ob h
  exact gC_spec e1
theorem ctX3_size (l : Launch) {P : PT} {M : Mm} {a0 : Nat} {r9 : Int32} (h : fX3_size M a0 = some r9) : Ct l yX3_size cX3_size 1 (some .int) 0 0 P [.ref (pB P + a0)] M (some (.int r9)) M :=
  Ct.mk (by decide +kernel) (Nat.le_of_ble_eq_true rfl) (fun p e s m args below meth c hX => wX3_size hX M a0 h)
set_option maxHeartbeats 4000000 in
set_option maxRecDepth 100000 in
theorem wX10_bar {p : Program} {l : Launch} {e : Env} {s : State} {m : MethodId} {args : Array Value} {below : List Frame} {meth : Method} {c : Code} {P : PT}  {r9 : Int32} {M9 : Mm} (hX : Cy p s m args c meth cX10_bar 2 RX10 "bar" (some .int) P)  (M : Mm) (a0 : Nat) (a1 : Int32) (h : fX10_bar M a0 a1 = some (r9, M9)) : Wq p l e s m args below meth c 3 0 (some (.int r9)) M9 2 P 0 0 [(0, .ref (pB P + a0)), (1, .int a1)] [] M := by
  unfold fX10_bar at h
  obtain ⟨_, _, h⟩ := ob h
  have hX0 := hX
  obtain ⟨X, hr, hlk, hnm⟩ := hX0
  have hx := X.1.1
  have hb := X.1.2.1
  intro H locs ls hM hl
  refine lv_iload_n (pc := 0) hx hb dX10_bar_0 rfl (lv_at hl 1 rfl) ?_
  refine lv_iconst (pc := 1) (v := (0 : Int32)) hx hb dX10_bar_1 (by decide) ?_
  refine lv_iconst (pc := 2) (v := (2 : Int32)) hx hb dX10_bar_2 (by decide) ?_
  obtain ⟨v2, e1, h⟩ := ob h
  refine bz_callS1 (pc := 3) (As := [.int a1, .int (0 : Int32), .int (2 : Int32)]) (rest := []) X hM hl.1 k_RX10_74 (ctX10_within l e1) rfl rfl ⟨(Nat.le_of_ble_eq_true rfl), (Nat.le_of_ble_eq_true rfl)⟩ (Nat.le_of_ble_eq_true rfl) ⟨(Nat.le_of_ble_eq_true rfl), (Nat.le_of_ble_eq_true rfl)⟩ dX10_bar_3 (fun H locs hM => ?_)
  refine lv_if_ne (pc := 6) (tgt := 15) hx hb dX10_bar_6 (by decide) (fun hc => ?_) (fun hc => ?_)
  · have h := if_f hc h
    refine lv_aload_n (pc := 15) hx hb dX10_bar_15 rfl (lv_at hl 0 rfl) ?_
    obtain ⟨q3, e4, h⟩ := ob h
    refine bz_getQ (pc := 16) X hM fl_RX10_10 e4 dX10_bar_16 ?_
    obtain ⟨q5, e6, h⟩ := ob h
    refine bz_getQ (pc := 19) X hM fl_RX10_89 e6 dX10_bar_19 ?_
    refine lv_iload_n (pc := 22) hx hb dX10_bar_22 rfl (lv_at hl 1 rfl) ?_
    obtain ⟨v8, M9, e7, h⟩ := ob2 h
    obtain ⟨fs10, hb11⟩ := (rX3_add e7)
    refine bz_callV1 (pc := 23) (As := [.int a1]) (rest := []) X hM hl.1 k_RX10_92 (ctX3_add l e7) rfl hb11 rfl rfl ⟨(Nat.le_of_ble_eq_true rfl), (Nat.le_of_ble_eq_true rfl)⟩ (Nat.le_of_ble_eq_true rfl) ⟨(Nat.le_of_ble_eq_true rfl), (Nat.le_of_ble_eq_true rfl)⟩ dX10_bar_23 (fun H locs hM => ?_)
    refine lv_if_ne (pc := 26) (tgt := 35) hx hb dX10_bar_26 (by decide) (fun hc => ?_) (fun hc => ?_)
    · have h := if_f hc h
      refine lv_aload_n (pc := 35) hx hb dX10_bar_35 rfl (lv_at hl 0 rfl) ?_
      obtain ⟨q12, e13, h⟩ := ob h
      refine bz_getQ (pc := 36) X hM fl_RX10_10 e13 dX10_bar_36 ?_
      obtain ⟨q14, e15, h⟩ := ob h
      refine bz_getQ (pc := 39) X hM fl_RX10_89 e15 dX10_bar_39 ?_
      obtain ⟨v17, e16, h⟩ := ob h
      obtain ⟨fs18, hb19⟩ := (rX3_size e16)
      refine bz_callV1 (pc := 42) (As := []) (rest := []) X hM hl.1 k_RX10_96 (ctX3_size l e16) rfl hb19 rfl rfl ⟨(Nat.le_of_ble_eq_true rfl), (Nat.le_of_ble_eq_true rfl)⟩ (Nat.le_of_ble_eq_true rfl) ⟨(Nat.le_of_ble_eq_true rfl), (Nat.le_of_ble_eq_true rfl)⟩ dX10_bar_42 (fun H locs hM => ?_)
      refine lv_iconst (pc := 45) (v := (1 : Int32)) hx hb dX10_bar_45 (by decide) ?_
      refine lv_isub (pc := 46) hx hb dX10_bar_46 ?_
      obtain ⟨rfl, rfl⟩ := so2 h
      exact bz_iret (pc := 47) X hM hr hlk dX10_bar_47 (Nat.le_of_ble_eq_true rfl) (Nat.le_of_ble_eq_true rfl)
    · have h := if_t hc h
      refine lv_aload_n (pc := 29) hx hb dX10_bar_29 rfl (lv_at hl 0 rfl) ?_
      refine lv_iconst (pc := 30) (v := (4 : Int32)) hx hb dX10_bar_30 (by decide) ?_
      obtain ⟨v21, M22, e20, h⟩ := ob2 h
      obtain ⟨fs23, hb24⟩ := (rX10_error e20)
      refine bz_callV1 (pc := 31) (As := [.int (4 : Int32)]) (rest := []) X hM hl.1 k_RX10_78 (ctX10_error l e20) rfl hb24 rfl rfl ⟨(Nat.le_of_ble_eq_true rfl), (Nat.le_of_ble_eq_true rfl)⟩ (Nat.le_of_ble_eq_true rfl) ⟨(Nat.le_of_ble_eq_true rfl), (Nat.le_of_ble_eq_true rfl)⟩ dX10_bar_31 (fun H locs hM => ?_)
      obtain ⟨rfl, rfl⟩ := so2 h
      exact bz_iret (pc := 34) X hM hr hlk dX10_bar_34 (Nat.le_of_ble_eq_true rfl) (Nat.le_of_ble_eq_true rfl)
  · have h := if_t hc h
    refine lv_aload_n (pc := 9) hx hb dX10_bar_9 rfl (lv_at hl 0 rfl) ?_
    refine lv_iconst (pc := 10) (v := (1 : Int32)) hx hb dX10_bar_10 (by decide) ?_
    obtain ⟨v26, M27, e25, h⟩ := ob2 h
    obtain ⟨fs28, hb29⟩ := (rX10_error e25)
    refine bz_callV1 (pc := 11) (As := [.int (1 : Int32)]) (rest := []) X hM hl.1 k_RX10_78 (ctX10_error l e25) rfl hb29 rfl rfl ⟨(Nat.le_of_ble_eq_true rfl), (Nat.le_of_ble_eq_true rfl)⟩ (Nat.le_of_ble_eq_true rfl) ⟨(Nat.le_of_ble_eq_true rfl), (Nat.le_of_ble_eq_true rfl)⟩ dX10_bar_11 (fun H locs hM => ?_)
    obtain ⟨rfl, rfl⟩ := so2 h
    exact bz_iret (pc := 14) X hM hr hlk dX10_bar_14 (Nat.le_of_ble_eq_true rfl) (Nat.le_of_ble_eq_true rfl)
theorem rX10_bar {M : Mm} {a0 : Nat} {a1 : Int32} {r9 : Int32 × Mm} (h : fX10_bar M a0 a1 = some r9) : ∃ fs, M[a0]? = some (.inr (10, fs)) := by
  unfold fX10_bar at h
  obtain ⟨_, e1, _⟩ := ob h
  exact gC_spec e1
theorem ctX10_bar (l : Launch) {P : PT} {M : Mm} {a0 : Nat} {a1 : Int32} {r9 : Int32} {M9 : Mm} (h : fX10_bar M a0 a1 = some (r9, M9)) : Ct l yX10_bar cX10_bar 2 (some .int) 3 0 P [.ref (pB P + a0), .int a1] M (some (.int r9)) M9 :=
  Ct.mk (by decide +kernel) (Nat.le_of_ble_eq_true rfl) (fun p e s m args below meth c hX => wX10_bar hX M a0 a1 h)
set_option maxHeartbeats 4000000 in
set_option maxRecDepth 100000 in
theorem wX11_bar {p : Program} {l : Launch} {e : Env} {s : State} {m : MethodId} {args : Array Value} {below : List Frame} {meth : Method} {c : Code} {P : PT}  {r9 : Int32} {M9 : Mm} (hX : Cy p s m args c meth cX11_bar 2 RX11 "bar" (some .int) P)  (M : Mm) (a0 : Nat) (a1 : Int32) (h : fX11_bar M a0 a1 = some (r9, M9)) : Wq p l e s m args below meth c 1 0 (some (.int r9)) M9 2 P 0 0 [(0, .ref (pB P + a0)), (1, .int a1)] [] M := by
  unfold fX11_bar at h
  obtain ⟨_, _, h⟩ := ob h
  have hX0 := hX
  obtain ⟨X, hr, hlk, hnm⟩ := hX0
  have hx := X.1.1
  have hb := X.1.2.1
  intro H locs ls hM hl
  refine lv_iload_n (pc := 0) hx hb dX11_bar_0 rfl (lv_at hl 1 rfl) ?_
  refine lv_i2l (pc := 1) (v := ((a1).toInt64)) hx hb dX11_bar_1 rfl ?_
  refine lv_lconst (pc := 2) (v := (0 : Int64)) hx hb dX11_bar_2 (by decide) ?_
  refine lv_ldc2 (pc := 3) (v := (2 : Int64)) hx hb X.1.2.2.2.1 (X.1.2.2.2.2 _ g_1271) dX11_bar_3 ?_
  obtain ⟨v2, e1, h⟩ := ob h
  refine bz_callS1 (pc := 6) (As := [.long ((a1).toInt64), .long (0 : Int64), .long (2 : Int64)]) (rest := []) X hM hl.1 k_RX11_57 (ctX11_in l e1) rfl rfl ⟨(Nat.le_of_ble_eq_true rfl), (Nat.le_of_ble_eq_true rfl)⟩ (Nat.le_of_ble_eq_true rfl) ⟨(Nat.le_of_ble_eq_true rfl), (Nat.le_of_ble_eq_true rfl)⟩ dX11_bar_6 (fun H locs hM => ?_)
  refine lv_if_ne (pc := 9) (tgt := 18) hx hb dX11_bar_9 (by decide) (fun hc => ?_) (fun hc => ?_)
  · have h := if_f hc h
    refine lv_aload_n (pc := 18) hx hb dX11_bar_18 rfl (lv_at hl 0 rfl) ?_
    obtain ⟨q3, e4, h⟩ := ob h
    refine bz_getQ (pc := 19) X hM fl_RX11_9 e4 dX11_bar_19 ?_
    refine lv_iconst (pc := 22) (v := (0 : Int32)) hx hb dX11_bar_22 (by decide) ?_
    obtain ⟨v5, e6, h⟩ := ob h
    refine bz_iald (pc := 23) X hM e6 dX11_bar_23 ?_
    refine lv_bipush (pc := 24) (v := (6 : Int32)) hx hb dX11_bar_24 (by decide) ?_
    refine lv_icmp_ne (pc := 26) (tgt := 35) hx hb dX11_bar_26 (by decide) (fun hc => ?_) (fun hc => ?_)
    · have h := if_f hc h
      refine lv_aload_n (pc := 35) hx hb dX11_bar_35 rfl (lv_at hl 0 rfl) ?_
      obtain ⟨q7, e8, h⟩ := ob h
      refine bz_getQ (pc := 36) X hM fl_RX11_9 e8 dX11_bar_36 ?_
      refine lv_bipush (pc := 39) (v := (12 : Int32)) hx hb dX11_bar_39 (by decide) ?_
      refine lv_aload_n (pc := 41) hx hb dX11_bar_41 rfl (lv_at hl 0 rfl) ?_
      obtain ⟨q9, e10, h⟩ := ob h
      refine bz_getQ (pc := 42) X hM fl_RX11_9 e10 dX11_bar_42 ?_
      refine lv_iconst (pc := 45) (v := (0 : Int32)) hx hb dX11_bar_45 (by decide) ?_
      obtain ⟨v11, e12, h⟩ := ob h
      refine bz_iald (pc := 46) X hM e12 dX11_bar_46 ?_
      refine lv_iadd (pc := 47) hx hb dX11_bar_47 ?_
      refine lv_iload_n (pc := 48) hx hb dX11_bar_48 rfl (lv_at hl 1 rfl) ?_
      obtain ⟨M13, e14, h⟩ := ob h
      refine bz_iast (pc := 49) X hM e14 dX11_bar_49 (fun H locs hM => ?_)
      refine lv_aload_n (pc := 50) hx hb dX11_bar_50 rfl (lv_at hl 0 rfl) ?_
      obtain ⟨q15, e16, h⟩ := ob h
      refine bz_getQ (pc := 51) X hM fl_RX11_9 e16 dX11_bar_51 ?_
      refine lv_iconst (pc := 54) (v := (0 : Int32)) hx hb dX11_bar_54 (by decide) ?_
      refine lv_dup2_11 (pc := 55) hx hb dX11_bar_55 rfl rfl ?_
      obtain ⟨v17, e18, h⟩ := ob h
      refine bz_iald (pc := 56) X hM e18 dX11_bar_56 ?_
      refine lv_iconst (pc := 57) (v := (1 : Int32)) hx hb dX11_bar_57 (by decide) ?_
      refine lv_iadd (pc := 58) hx hb dX11_bar_58 ?_
      obtain ⟨M19, e20, h⟩ := ob h
      refine bz_iast (pc := 59) X hM e20 dX11_bar_59 (fun H locs hM => ?_)
      refine lv_aload_n (pc := 60) hx hb dX11_bar_60 rfl (lv_at hl 0 rfl) ?_
      obtain ⟨q21, e22, h⟩ := ob h
      refine bz_getQ (pc := 61) X hM fl_RX11_9 e22 dX11_bar_61 ?_
      refine lv_iconst (pc := 64) (v := (0 : Int32)) hx hb dX11_bar_64 (by decide) ?_
      obtain ⟨v23, e24, h⟩ := ob h
      refine bz_iald (pc := 65) X hM e24 dX11_bar_65 ?_
      refine lv_iconst (pc := 66) (v := (1 : Int32)) hx hb dX11_bar_66 (by decide) ?_
      refine lv_isub (pc := 67) hx hb dX11_bar_67 ?_
      obtain ⟨rfl, rfl⟩ := so2 h
      exact bz_iret (pc := 68) X hM hr hlk dX11_bar_68 (Nat.le_of_ble_eq_true rfl) (Nat.le_of_ble_eq_true rfl)
    · have h := if_t hc h
      refine lv_aload_n (pc := 29) hx hb dX11_bar_29 rfl (lv_at hl 0 rfl) ?_
      refine lv_iconst (pc := 30) (v := (4 : Int32)) hx hb dX11_bar_30 (by decide) ?_
      obtain ⟨v26, M27, e25, h⟩ := ob2 h
      obtain ⟨fs28, hb29⟩ := (rX11_error e25)
      refine bz_callV1 (pc := 31) (As := [.int (4 : Int32)]) (rest := []) X hM hl.1 k_RX11_73 (ctX11_error l e25) rfl hb29 rfl rfl ⟨(Nat.le_of_ble_eq_true rfl), (Nat.le_of_ble_eq_true rfl)⟩ (Nat.le_of_ble_eq_true rfl) ⟨(Nat.le_of_ble_eq_true rfl), (Nat.le_of_ble_eq_true rfl)⟩ dX11_bar_31 (fun H locs hM => ?_)
      obtain ⟨rfl, rfl⟩ := so2 h
      exact bz_iret (pc := 34) X hM hr hlk dX11_bar_34 (Nat.le_of_ble_eq_true rfl) (Nat.le_of_ble_eq_true rfl)
  · have h := if_t hc h
    refine lv_aload_n (pc := 12) hx hb dX11_bar_12 rfl (lv_at hl 0 rfl) ?_
    refine lv_iconst (pc := 13) (v := (1 : Int32)) hx hb dX11_bar_13 (by decide) ?_
    obtain ⟨v31, M32, e30, h⟩ := ob2 h
    obtain ⟨fs33, hb34⟩ := (rX11_error e30)
    refine bz_callV1 (pc := 14) (As := [.int (1 : Int32)]) (rest := []) X hM hl.1 k_RX11_73 (ctX11_error l e30) rfl hb34 rfl rfl ⟨(Nat.le_of_ble_eq_true rfl), (Nat.le_of_ble_eq_true rfl)⟩ (Nat.le_of_ble_eq_true rfl) ⟨(Nat.le_of_ble_eq_true rfl), (Nat.le_of_ble_eq_true rfl)⟩ dX11_bar_14 (fun H locs hM => ?_)
    obtain ⟨rfl, rfl⟩ := so2 h
    exact bz_iret (pc := 17) X hM hr hlk dX11_bar_17 (Nat.le_of_ble_eq_true rfl) (Nat.le_of_ble_eq_true rfl)
theorem rX11_bar {M : Mm} {a0 : Nat} {a1 : Int32} {r9 : Int32 × Mm} (h : fX11_bar M a0 a1 = some r9) : ∃ fs, M[a0]? = some (.inr (11, fs)) := by
  unfold fX11_bar at h
  obtain ⟨_, e1, _⟩ := ob h
  exact gC_spec e1
theorem ctX11_bar (l : Launch) {P : PT} {M : Mm} {a0 : Nat} {a1 : Int32} {r9 : Int32} {M9 : Mm} (h : fX11_bar M a0 a1 = some (r9, M9)) : Ct l yX11_bar cX11_bar 2 (some .int) 1 0 P [.ref (pB P + a0), .int a1] M (some (.int r9)) M9 :=
  Ct.mk (by decide +kernel) (Nat.le_of_ble_eq_true rfl) (fun p e s m args below meth c hX => wX11_bar hX M a0 a1 h)
set_option maxHeartbeats 4000000 in
set_option maxRecDepth 100000 in
theorem wX10_isBar {p : Program} {l : Launch} {e : Env} {s : State} {m : MethodId} {args : Array Value} {below : List Frame} {meth : Method} {c : Code} {P : PT}  {r9 : Int32} (hX : Cy p s m args c meth cX10_isBar 2 RX10 "isBar" (some .boolean) P)  (M : Mm) (a0 : Nat) (a1 : Int32) (h : fX10_isBar M a0 a1 = some r9) : Wq p l e s m args below meth c 1 0 (some (.int r9)) M 2 P 0 0 [(0, .ref (pB P + a0)), (1, .int a1)] [] M := by
  unfold fX10_isBar at h
  obtain ⟨_, _, h⟩ := ob h
  have hX0 := hX
  obtain ⟨X, hr, hlk, hnm⟩ := hX0
  have hx := X.1.1
  have hb := X.1.2.1
  intro H locs ls hM hl
  refine lv_iload_n (pc := 0) hx hb dX10_isBar_0 rfl (lv_at hl 1 rfl) ?_
  refine lv_iconst (pc := 1) (v := (0 : Int32)) hx hb dX10_isBar_1 (by decide) ?_
  refine lv_aload_n (pc := 2) hx hb dX10_isBar_2 rfl (lv_at hl 0 rfl) ?_
  obtain ⟨q1, e2, h⟩ := ob h
  refine bz_getQ (pc := 3) X hM fl_RX10_10 e2 dX10_isBar_3 ?_
  obtain ⟨q3, e4, h⟩ := ob h
  refine bz_getQ (pc := 6) X hM fl_RX10_89 e4 dX10_isBar_6 ?_
  obtain ⟨v6, e5, h⟩ := ob h
  obtain ⟨fs7, hb8⟩ := (rX3_size e5)
  refine bz_callV1 (pc := 9) (As := []) (rest := [.int (0 : Int32), .int a1]) X hM hl.1 k_RX10_96 (ctX3_size l e5) rfl hb8 rfl rfl ⟨(Nat.le_of_ble_eq_true rfl), (Nat.le_of_ble_eq_true rfl)⟩ (Nat.le_of_ble_eq_true rfl) ⟨(Nat.le_of_ble_eq_true rfl), (Nat.le_of_ble_eq_true rfl)⟩ dX10_isBar_9 (fun H locs hM => ?_)
  refine lv_iconst (pc := 12) (v := (1 : Int32)) hx hb dX10_isBar_12 (by decide) ?_
  refine lv_isub (pc := 13) hx hb dX10_isBar_13 ?_
  obtain ⟨v10, e9, h⟩ := ob h
  refine bz_callS1 (pc := 14) (As := [.int a1, .int (0 : Int32), .int (v6 - (1 : Int32))]) (rest := []) X hM hl.1 k_RX10_74 (ctX10_within l e9) rfl rfl ⟨(Nat.le_of_ble_eq_true rfl), (Nat.le_of_ble_eq_true rfl)⟩ (Nat.le_of_ble_eq_true rfl) ⟨(Nat.le_of_ble_eq_true rfl), (Nat.le_of_ble_eq_true rfl)⟩ dX10_isBar_14 (fun H locs hM => ?_)
  obtain ⟨v11, e12, h⟩ := ob h
  obtain rfl := so1 h
  exact bz_zretz (pc := 17) X hM hr hlk e12 dX10_isBar_17 (Nat.le_of_ble_eq_true rfl) (Nat.le_of_ble_eq_true rfl)
theorem rX10_isBar {M : Mm} {a0 : Nat} {a1 : Int32} {r9 : Int32} (h : fX10_isBar M a0 a1 = some r9) : ∃ fs, M[a0]? = some (.inr (10, fs)) := by
  unfold fX10_isBar at h
  obtain ⟨_, e1, _⟩ := ob h
  exact gC_spec e1
theorem ctX10_isBar (l : Launch) {P : PT} {M : Mm} {a0 : Nat} {a1 : Int32} {r9 : Int32} (h : fX10_isBar M a0 a1 = some r9) : Ct l yX10_isBar cX10_isBar 2 (some .boolean) 1 0 P [.ref (pB P + a0), .int a1] M (some (.int r9)) M :=
  Ct.mk (by decide +kernel) (Nat.le_of_ble_eq_true rfl) (fun p e s m args below meth c hX => wX10_isBar hX M a0 a1 h)
set_option maxHeartbeats 4000000 in
set_option maxRecDepth 100000 in
theorem wX10_isTenth {p : Program} {l : Launch} {e : Env} {s : State} {m : MethodId} {args : Array Value} {below : List Frame} {meth : Method} {c : Code} {P : PT}  {r9 : Int32} (hX : Cy p s m args c meth cX10_isTenth 1 RX10 "isTenth" (some .boolean) P)  (M : Mm) (a0 : Int32) (h : fX10_isTenth M a0 = some r9) : Wq p l e s m args below meth c 1 0 (some (.int r9)) M 1 P 0 0 [(0, .int a0)] [] M := by
  unfold fX10_isTenth at h
  have hX0 := hX
  obtain ⟨X, hr, hlk, hnm⟩ := hX0
  have hx := X.1.1
  have hb := X.1.2.1
  intro H locs ls hM hl
  refine lv_iload_n (pc := 0) hx hb dX10_isTenth_0 rfl (lv_at hl 0 rfl) ?_
  refine lv_iconst (pc := 1) (v := (0 : Int32)) hx hb dX10_isTenth_1 (by decide) ?_
  refine lv_sipush (pc := 2) (v := (9999 : Int32)) hx hb dX10_isTenth_2 (by decide) ?_
  obtain ⟨v2, e1, h⟩ := ob h
  refine bz_callS1 (pc := 5) (As := [.int a0, .int (0 : Int32), .int (9999 : Int32)]) (rest := []) X hM hl.1 k_RX10_74 (ctX10_within l e1) rfl rfl ⟨(Nat.le_of_ble_eq_true rfl), (Nat.le_of_ble_eq_true rfl)⟩ (Nat.le_of_ble_eq_true rfl) ⟨(Nat.le_of_ble_eq_true rfl), (Nat.le_of_ble_eq_true rfl)⟩ dX10_isTenth_5 (fun H locs hM => ?_)
  obtain ⟨v3, e4, h⟩ := ob h
  obtain rfl := so1 h
  exact bz_zretz (pc := 8) X hM hr hlk e4 dX10_isTenth_8 (Nat.le_of_ble_eq_true rfl) (Nat.le_of_ble_eq_true rfl)
theorem ctX10_isTenth (l : Launch) {P : PT} {M : Mm} {a0 : Int32} {r9 : Int32} (h : fX10_isTenth M a0 = some r9) : Ct l yX10_isTenth cX10_isTenth 1 (some .boolean) 1 0 P [.int a0] M (some (.int r9)) M :=
  Ct.mk (by decide +kernel) (Nat.le_of_ble_eq_true rfl) (fun p e s m args below meth c hX => wX10_isTenth hX M a0 h)
set_option maxHeartbeats 4000000 in
set_option maxRecDepth 100000 in
theorem wX10_isHeight {p : Program} {l : Launch} {e : Env} {s : State} {m : MethodId} {args : Array Value} {below : List Frame} {meth : Method} {c : Code} {P : PT}  {r9 : Int32} (hX : Cy p s m args c meth cX10_isHeight 1 RX10 "isHeight" (some .boolean) P)  (M : Mm) (a0 : Int32) (h : fX10_isHeight M a0 = some r9) : Wq p l e s m args below meth c 1 0 (some (.int r9)) M 1 P 0 0 [(0, .int a0)] [] M := by
  unfold fX10_isHeight at h
  have hX0 := hX
  obtain ⟨X, hr, hlk, hnm⟩ := hX0
  have hx := X.1.1
  have hb := X.1.2.1
  intro H locs ls hM hl
  refine lv_iload_n (pc := 0) hx hb dX10_isHeight_0 rfl (lv_at hl 0 rfl) ?_
  refine lv_iconst (pc := 1) (v := (1 : Int32)) hx hb dX10_isHeight_1 (by decide) ?_
  refine lv_sipush (pc := 2) (v := (999 : Int32)) hx hb dX10_isHeight_2 (by decide) ?_
  obtain ⟨v2, e1, h⟩ := ob h
  refine bz_callS1 (pc := 5) (As := [.int a0, .int (1 : Int32), .int (999 : Int32)]) (rest := []) X hM hl.1 k_RX10_74 (ctX10_within l e1) rfl rfl ⟨(Nat.le_of_ble_eq_true rfl), (Nat.le_of_ble_eq_true rfl)⟩ (Nat.le_of_ble_eq_true rfl) ⟨(Nat.le_of_ble_eq_true rfl), (Nat.le_of_ble_eq_true rfl)⟩ dX10_isHeight_5 (fun H locs hM => ?_)
  obtain ⟨v3, e4, h⟩ := ob h
  obtain rfl := so1 h
  exact bz_zretz (pc := 8) X hM hr hlk e4 dX10_isHeight_8 (Nat.le_of_ble_eq_true rfl) (Nat.le_of_ble_eq_true rfl)
theorem ctX10_isHeight (l : Launch) {P : PT} {M : Mm} {a0 : Int32} {r9 : Int32} (h : fX10_isHeight M a0 = some r9) : Ct l yX10_isHeight cX10_isHeight 1 (some .boolean) 1 0 P [.int a0] M (some (.int r9)) M :=
  Ct.mk (by decide +kernel) (Nat.le_of_ble_eq_true rfl) (fun p e s m args below meth c hX => wX10_isHeight hX M a0 h)
set_option maxHeartbeats 4000000 in
set_option maxRecDepth 100000 in
theorem wX6_addRing {p : Program} {l : Launch} {e : Env} {s : State} {m : MethodId} {args : Array Value} {below : List Frame} {meth : Method} {c : Code} {P : PT}  {r9 : Int32} {M9 : Mm} (hX : Cy p s m args c meth cX6_addRing 4 RX6 "addRing" (some .boolean) P)  (M : Mm) (a0 : Nat) (a1 : Int32) (a2 : Int32) (a3 : Int32) (h : fX6_addRing M a0 a1 a2 a3 = some (r9, M9)) : Wq p l e s m args below meth c 1 0 (some (.int r9)) M9 4 P 0 0 [(0, .ref (pB P + a0)), (1, .int a1), (2, .int a2), (3, .int a3)] [] M := by
  unfold fX6_addRing at h
  obtain ⟨_, _, h⟩ := ob h
  have hX0 := hX
  obtain ⟨X, hr, hlk, hnm⟩ := hX0
  have hx := X.1.1
  have hb := X.1.2.1
  intro H locs ls hM hl
  refine lv_aload_n (pc := 0) hx hb dX6_addRing_0 rfl (lv_at hl 0 rfl) ?_
  obtain ⟨q1, e2, h⟩ := ob h
  refine bz_getQ (pc := 1) X hM fl_RX6_23 e2 dX6_addRing_1 ?_
  refine lv_iload_n (pc := 4) hx hb dX6_addRing_4 rfl (lv_at hl 1 rfl) ?_
  obtain ⟨v4, M5, e3, h⟩ := ob2 h
  obtain ⟨fs6, hb7⟩ := (rX3_add e3)
  refine bz_callV1 (pc := 5) (As := [.int a1]) (rest := []) X hM hl.1 k_RX6_87 (ctX3_add l e3) rfl hb7 rfl rfl ⟨(Nat.le_of_ble_eq_true rfl), (Nat.le_of_ble_eq_true rfl)⟩ (Nat.le_of_ble_eq_true rfl) ⟨(Nat.le_of_ble_eq_true rfl), (Nat.le_of_ble_eq_true rfl)⟩ dX6_addRing_5 (fun H locs hM => ?_)
  refine lv_if_eq (pc := 8) (tgt := 37) hx hb dX6_addRing_8 (by decide) (fun hc => ?_) (fun hc => ?_)
  · have h := if_t hc h
    refine lv_iconst (pc := 37) (v := (0 : Int32)) hx hb dX6_addRing_37 (by decide) ?_
    obtain ⟨rfl, rfl⟩ := so2 h
    exact bz_zret (pc := 38) X hM hr hlk (by decide) dX6_addRing_38 (Nat.le_of_ble_eq_true rfl) (Nat.le_of_ble_eq_true rfl)
  · have h := if_f hc h
    refine lv_aload_n (pc := 11) hx hb dX6_addRing_11 rfl (lv_at hl 0 rfl) ?_
    obtain ⟨q8, e9, h⟩ := ob h
    refine bz_getQ (pc := 12) X hM fl_RX6_26 e9 dX6_addRing_12 ?_
    refine lv_iload_n (pc := 15) hx hb dX6_addRing_15 rfl (lv_at hl 2 rfl) ?_
    obtain ⟨v11, M12, e10, h⟩ := ob2 h
    obtain ⟨fs13, hb14⟩ := (rX3_add e10)
    refine bz_callV1 (pc := 16) (As := [.int a2]) (rest := []) X hM hl.1 k_RX6_87 (ctX3_add l e10) rfl hb14 rfl rfl ⟨(Nat.le_of_ble_eq_true rfl), (Nat.le_of_ble_eq_true rfl)⟩ (Nat.le_of_ble_eq_true rfl) ⟨(Nat.le_of_ble_eq_true rfl), (Nat.le_of_ble_eq_true rfl)⟩ dX6_addRing_16 (fun H locs hM => ?_)
    refine lv_if_eq (pc := 19) (tgt := 37) hx hb dX6_addRing_19 (by decide) (fun hc => ?_) (fun hc => ?_)
    · have h := if_t hc h
      refine lv_iconst (pc := 37) (v := (0 : Int32)) hx hb dX6_addRing_37 (by decide) ?_
      obtain ⟨rfl, rfl⟩ := so2 h
      exact bz_zret (pc := 38) X hM hr hlk (by decide) dX6_addRing_38 (Nat.le_of_ble_eq_true rfl) (Nat.le_of_ble_eq_true rfl)
    · have h := if_f hc h
      refine lv_aload_n (pc := 22) hx hb dX6_addRing_22 rfl (lv_at hl 0 rfl) ?_
      obtain ⟨q15, e16, h⟩ := ob h
      refine bz_getQ (pc := 23) X hM fl_RX6_29 e16 dX6_addRing_23 ?_
      refine lv_iload_n (pc := 26) hx hb dX6_addRing_26 rfl (lv_at hl 3 rfl) ?_
      obtain ⟨v18, M19, e17, h⟩ := ob2 h
      obtain ⟨fs20, hb21⟩ := (rX3_add e17)
      refine bz_callV1 (pc := 27) (As := [.int a3]) (rest := []) X hM hl.1 k_RX6_87 (ctX3_add l e17) rfl hb21 rfl rfl ⟨(Nat.le_of_ble_eq_true rfl), (Nat.le_of_ble_eq_true rfl)⟩ (Nat.le_of_ble_eq_true rfl) ⟨(Nat.le_of_ble_eq_true rfl), (Nat.le_of_ble_eq_true rfl)⟩ dX6_addRing_27 (fun H locs hM => ?_)
      refine lv_if_eq (pc := 30) (tgt := 37) hx hb dX6_addRing_30 (by decide) (fun hc => ?_) (fun hc => ?_)
      · have h := if_t hc h
        refine lv_iconst (pc := 37) (v := (0 : Int32)) hx hb dX6_addRing_37 (by decide) ?_
        obtain ⟨rfl, rfl⟩ := so2 h
        exact bz_zret (pc := 38) X hM hr hlk (by decide) dX6_addRing_38 (Nat.le_of_ble_eq_true rfl) (Nat.le_of_ble_eq_true rfl)
      · have h := if_f hc h
        refine lv_iconst (pc := 33) (v := (1 : Int32)) hx hb dX6_addRing_33 (by decide) ?_
        refine lv_goto (pc := 34) (tgt := 38) hx hb dX6_addRing_34 (by decide) ?_
        obtain ⟨rfl, rfl⟩ := so2 h
        exact bz_zret (pc := 38) X hM hr hlk (by decide) dX6_addRing_38 (Nat.le_of_ble_eq_true rfl) (Nat.le_of_ble_eq_true rfl)
theorem rX6_addRing {M : Mm} {a0 : Nat} {a1 : Int32} {a2 : Int32} {a3 : Int32} {r9 : Int32 × Mm} (h : fX6_addRing M a0 a1 a2 a3 = some r9) : ∃ fs, M[a0]? = some (.inr (6, fs)) := by
  unfold fX6_addRing at h
  obtain ⟨_, e1, _⟩ := ob h
  exact gC_spec e1
theorem ctX6_addRing (l : Launch) {P : PT} {M : Mm} {a0 : Nat} {a1 : Int32} {a2 : Int32} {a3 : Int32} {r9 : Int32} {M9 : Mm} (h : fX6_addRing M a0 a1 a2 a3 = some (r9, M9)) : Ct l yX6_addRing cX6_addRing 4 (some .boolean) 1 0 P [.ref (pB P + a0), .int a1, .int a2, .int a3] M (some (.int r9)) M9 :=
  Ct.mk (by decide +kernel) (Nat.le_of_ble_eq_true rfl) (fun p e s m args below meth c hX => wX6_addRing hX M a0 a1 a2 a3 h)
set_option maxHeartbeats 4000000 in
set_option maxRecDepth 100000 in
theorem wX6_rings {p : Program} {l : Launch} {e : Env} {s : State} {m : MethodId} {args : Array Value} {below : List Frame} {meth : Method} {c : Code} {P : PT}  {r9 : Int32} (hX : Cy p s m args c meth cX6_rings 1 RX6 "rings" (some .int) P)  (M : Mm) (a0 : Nat) (h : fX6_rings M a0 = some r9) : Wq p l e s m args below meth c 1 0 (some (.int r9)) M 1 P 0 0 [(0, .ref (pB P + a0))] [] M := by
  unfold fX6_rings at h
  obtain ⟨_, _, h⟩ := ob h
  have hX0 := hX
  obtain ⟨X, hr, hlk, hnm⟩ := hX0
  have hx := X.1.1
  have hb := X.1.2.1
  intro H locs ls hM hl
  refine lv_aload_n (pc := 0) hx hb dX6_rings_0 rfl (lv_at hl 0 rfl) ?_
  obtain ⟨q1, e2, h⟩ := ob h
  refine bz_getQ (pc := 1) X hM fl_RX6_23 e2 dX6_rings_1 ?_
  obtain ⟨v4, e3, h⟩ := ob h
  obtain ⟨fs5, hb6⟩ := (rX3_size e3)
  refine bz_callV1 (pc := 4) (As := []) (rest := []) X hM hl.1 k_RX6_83 (ctX3_size l e3) rfl hb6 rfl rfl ⟨(Nat.le_of_ble_eq_true rfl), (Nat.le_of_ble_eq_true rfl)⟩ (Nat.le_of_ble_eq_true rfl) ⟨(Nat.le_of_ble_eq_true rfl), (Nat.le_of_ble_eq_true rfl)⟩ dX6_rings_4 (fun H locs hM => ?_)
  obtain rfl := so1 h
  exact bz_iret (pc := 7) X hM hr hlk dX6_rings_7 (Nat.le_of_ble_eq_true rfl) (Nat.le_of_ble_eq_true rfl)
theorem rX6_rings {M : Mm} {a0 : Nat} {r9 : Int32} (h : fX6_rings M a0 = some r9) : ∃ fs, M[a0]? = some (.inr (6, fs)) := by
  unfold fX6_rings at h
  obtain ⟨_, e1, _⟩ := ob h
  exact gC_spec e1
theorem ctX6_rings (l : Launch) {P : PT} {M : Mm} {a0 : Nat} {r9 : Int32} (h : fX6_rings M a0 = some r9) : Ct l yX6_rings cX6_rings 1 (some .int) 1 0 P [.ref (pB P + a0)] M (some (.int r9)) M :=
  Ct.mk (by decide +kernel) (Nat.le_of_ble_eq_true rfl) (fun p e s m args below meth c hX => wX6_rings hX M a0 h)
set_option maxHeartbeats 4000000 in
set_option maxRecDepth 100000 in
theorem wjX10_ring_22 {p : Program} {l : Launch} {e : Env} {s : State} {m : MethodId} {args : Array Value} {below : List Frame} {meth : Method} {c : Code} {P : PT}  {r9 : Int32} {M9 : Mm} (hX : Cy p s m args c meth cX10_ring 4 RX10 "ring" (some .int) P)   (M : Mm) (x0 : Nat)  (h : jX10_ring_22 M x0 = some (r9, M9)) : Wq p l e s m args below meth c 3 0 (some (.int r9)) M9 4 P 0 22 [(0, .ref (pB P + x0))] [] M := by
  unfold jX10_ring_22 at h
  have hX0 := hX
  obtain ⟨X, hr, hlk, hnm⟩ := hX0
  have hx := X.1.1
  have hb := X.1.2.1
  intro H locs ls hM hl
  refine lv_aload_n (pc := 22) hx hb dX10_ring_22 rfl (lv_at hl 0 rfl) ?_
  refine lv_iconst (pc := 23) (v := (1 : Int32)) hx hb dX10_ring_23 (by decide) ?_
  obtain ⟨v2, M3, e1, h⟩ := ob2 h
  obtain ⟨fs4, hb5⟩ := (rX10_error e1)
  refine bz_callV1 (pc := 24) (As := [.int (1 : Int32)]) (rest := []) X hM hl.1 k_RX10_78 (ctX10_error l e1) rfl hb5 rfl rfl ⟨(Nat.le_of_ble_eq_true rfl), (Nat.le_of_ble_eq_true rfl)⟩ (Nat.le_of_ble_eq_true rfl) ⟨(Nat.le_of_ble_eq_true rfl), (Nat.le_of_ble_eq_true rfl)⟩ dX10_ring_24 (fun H locs hM => ?_)
  obtain ⟨rfl, rfl⟩ := so2 h
  exact bz_iret (pc := 27) X hM hr hlk dX10_ring_27 (Nat.le_of_ble_eq_true rfl) (Nat.le_of_ble_eq_true rfl)
set_option maxHeartbeats 4000000 in
set_option maxRecDepth 100000 in
theorem wX10_ring {p : Program} {l : Launch} {e : Env} {s : State} {m : MethodId} {args : Array Value} {below : List Frame} {meth : Method} {c : Code} {P : PT}  {r9 : Int32} {M9 : Mm} (hX : Cy p s m args c meth cX10_ring 4 RX10 "ring" (some .int) P)  (M : Mm) (a0 : Nat) (a1 : Int32) (a2 : Int32) (a3 : Int32) (h : fX10_ring M a0 a1 a2 a3 = some (r9, M9)) : Wq p l e s m args below meth c 3 0 (some (.int r9)) M9 4 P 0 0 [(0, .ref (pB P + a0)), (1, .int a1), (2, .int a2), (3, .int a3)] [] M := by
  unfold fX10_ring at h
  obtain ⟨_, _, h⟩ := ob h
  have hX0 := hX
  obtain ⟨X, hr, hlk, hnm⟩ := hX0
  have hx := X.1.1
  have hb := X.1.2.1
  intro H locs ls hM hl
  refine lv_aload_n (pc := 0) hx hb dX10_ring_0 rfl (lv_at hl 0 rfl) ?_
  refine lv_iload_n (pc := 1) hx hb dX10_ring_1 rfl (lv_at hl 1 rfl) ?_
  obtain ⟨v2, e1, h⟩ := ob h
  obtain ⟨fs3, hb4⟩ := (rX10_isBar e1)
  refine bz_callV1 (pc := 2) (As := [.int a1]) (rest := []) X hM hl.1 k_RX10_100 (ctX10_isBar l e1) rfl hb4 rfl rfl ⟨(Nat.le_of_ble_eq_true rfl), (Nat.le_of_ble_eq_true rfl)⟩ (Nat.le_of_ble_eq_true rfl) ⟨(Nat.le_of_ble_eq_true rfl), (Nat.le_of_ble_eq_true rfl)⟩ dX10_ring_2 (fun H locs hM => ?_)
  refine lv_if_eq (pc := 5) (tgt := 22) hx hb dX10_ring_5 (by decide) (fun hc => ?_) (fun hc => ?_)
  · have h := if_t hc h
    exact wjX10_ring_22 hX _ _ h H locs ls hM (lv_sub hl [0] rfl)
  · have h := if_f hc h
    refine lv_iload_n (pc := 8) hx hb dX10_ring_8 rfl (lv_at hl 2 rfl) ?_
    obtain ⟨v6, e5, h⟩ := ob h
    refine bz_callS1 (pc := 9) (As := [.int a2]) (rest := []) X hM hl.1 k_RX10_103 (ctX10_isTenth l e5) rfl rfl ⟨(Nat.le_of_ble_eq_true rfl), (Nat.le_of_ble_eq_true rfl)⟩ (Nat.le_of_ble_eq_true rfl) ⟨(Nat.le_of_ble_eq_true rfl), (Nat.le_of_ble_eq_true rfl)⟩ dX10_ring_9 (fun H locs hM => ?_)
    refine lv_if_eq (pc := 12) (tgt := 22) hx hb dX10_ring_12 (by decide) (fun hc => ?_) (fun hc => ?_)
    · have h := if_t hc h
      exact wjX10_ring_22 hX _ _ h H locs ls hM (lv_sub hl [0] rfl)
    · have h := if_f hc h
      refine lv_iload_n (pc := 15) hx hb dX10_ring_15 rfl (lv_at hl 3 rfl) ?_
      obtain ⟨v8, e7, h⟩ := ob h
      refine bz_callS1 (pc := 16) (As := [.int a3]) (rest := []) X hM hl.1 k_RX10_106 (ctX10_isHeight l e7) rfl rfl ⟨(Nat.le_of_ble_eq_true rfl), (Nat.le_of_ble_eq_true rfl)⟩ (Nat.le_of_ble_eq_true rfl) ⟨(Nat.le_of_ble_eq_true rfl), (Nat.le_of_ble_eq_true rfl)⟩ dX10_ring_16 (fun H locs hM => ?_)
      refine lv_if_ne (pc := 19) (tgt := 28) hx hb dX10_ring_19 (by decide) (fun hc => ?_) (fun hc => ?_)
      · have h := if_f hc h
        refine lv_aload_n (pc := 28) hx hb dX10_ring_28 rfl (lv_at hl 0 rfl) ?_
        obtain ⟨q9, e10, h⟩ := ob h
        refine bz_getQ (pc := 29) X hM fl_RX10_10 e10 dX10_ring_29 ?_
        refine lv_iload_n (pc := 32) hx hb dX10_ring_32 rfl (lv_at hl 1 rfl) ?_
        refine lv_iload_n (pc := 33) hx hb dX10_ring_33 rfl (lv_at hl 2 rfl) ?_
        refine lv_iload_n (pc := 34) hx hb dX10_ring_34 rfl (lv_at hl 3 rfl) ?_
        obtain ⟨v12, M13, e11, h⟩ := ob2 h
        obtain ⟨fs14, hb15⟩ := (rX6_addRing e11)
        refine bz_callV1 (pc := 35) (As := [.int a1, .int a2, .int a3]) (rest := []) X hM hl.1 k_RX10_109 (ctX6_addRing l e11) rfl hb15 rfl rfl ⟨(Nat.le_of_ble_eq_true rfl), (Nat.le_of_ble_eq_true rfl)⟩ (Nat.le_of_ble_eq_true rfl) ⟨(Nat.le_of_ble_eq_true rfl), (Nat.le_of_ble_eq_true rfl)⟩ dX10_ring_35 (fun H locs hM => ?_)
        refine lv_if_ne (pc := 38) (tgt := 47) hx hb dX10_ring_38 (by decide) (fun hc => ?_) (fun hc => ?_)
        · have h := if_f hc h
          refine lv_aload_n (pc := 47) hx hb dX10_ring_47 rfl (lv_at hl 0 rfl) ?_
          obtain ⟨q16, e17, h⟩ := ob h
          refine bz_getQ (pc := 48) X hM fl_RX10_10 e17 dX10_ring_48 ?_
          obtain ⟨v19, e18, h⟩ := ob h
          obtain ⟨fs20, hb21⟩ := (rX6_rings e18)
          refine bz_callV1 (pc := 51) (As := []) (rest := []) X hM hl.1 k_RX10_112 (ctX6_rings l e18) rfl hb21 rfl rfl ⟨(Nat.le_of_ble_eq_true rfl), (Nat.le_of_ble_eq_true rfl)⟩ (Nat.le_of_ble_eq_true rfl) ⟨(Nat.le_of_ble_eq_true rfl), (Nat.le_of_ble_eq_true rfl)⟩ dX10_ring_51 (fun H locs hM => ?_)
          refine lv_iconst (pc := 54) (v := (1 : Int32)) hx hb dX10_ring_54 (by decide) ?_
          refine lv_isub (pc := 55) hx hb dX10_ring_55 ?_
          obtain ⟨rfl, rfl⟩ := so2 h
          exact bz_iret (pc := 56) X hM hr hlk dX10_ring_56 (Nat.le_of_ble_eq_true rfl) (Nat.le_of_ble_eq_true rfl)
        · have h := if_t hc h
          refine lv_aload_n (pc := 41) hx hb dX10_ring_41 rfl (lv_at hl 0 rfl) ?_
          refine lv_iconst (pc := 42) (v := (4 : Int32)) hx hb dX10_ring_42 (by decide) ?_
          obtain ⟨v23, M24, e22, h⟩ := ob2 h
          obtain ⟨fs25, hb26⟩ := (rX10_error e22)
          refine bz_callV1 (pc := 43) (As := [.int (4 : Int32)]) (rest := []) X hM hl.1 k_RX10_78 (ctX10_error l e22) rfl hb26 rfl rfl ⟨(Nat.le_of_ble_eq_true rfl), (Nat.le_of_ble_eq_true rfl)⟩ (Nat.le_of_ble_eq_true rfl) ⟨(Nat.le_of_ble_eq_true rfl), (Nat.le_of_ble_eq_true rfl)⟩ dX10_ring_43 (fun H locs hM => ?_)
          obtain ⟨rfl, rfl⟩ := so2 h
          exact bz_iret (pc := 46) X hM hr hlk dX10_ring_46 (Nat.le_of_ble_eq_true rfl) (Nat.le_of_ble_eq_true rfl)
      · have h := if_t hc h
        exact wjX10_ring_22 hX _ _ h H locs ls hM (lv_sub hl [0] rfl)
theorem rX10_ring {M : Mm} {a0 : Nat} {a1 : Int32} {a2 : Int32} {a3 : Int32} {r9 : Int32 × Mm} (h : fX10_ring M a0 a1 a2 a3 = some r9) : ∃ fs, M[a0]? = some (.inr (10, fs)) := by
  unfold fX10_ring at h
  obtain ⟨_, e1, _⟩ := ob h
  exact gC_spec e1
theorem ctX10_ring (l : Launch) {P : PT} {M : Mm} {a0 : Nat} {a1 : Int32} {a2 : Int32} {a3 : Int32} {r9 : Int32} {M9 : Mm} (h : fX10_ring M a0 a1 a2 a3 = some (r9, M9)) : Ct l yX10_ring cX10_ring 4 (some .int) 3 0 P [.ref (pB P + a0), .int a1, .int a2, .int a3] M (some (.int r9)) M9 :=
  Ct.mk (by decide +kernel) (Nat.le_of_ble_eq_true rfl) (fun p e s m args below meth c hX => wX10_ring hX M a0 a1 a2 a3 h)
set_option maxHeartbeats 4000000 in
set_option maxRecDepth 100000 in
theorem wX11_isBar {p : Program} {l : Launch} {e : Env} {s : State} {m : MethodId} {args : Array Value} {below : List Frame} {meth : Method} {c : Code} {P : PT}  {r9 : Int32} (hX : Cy p s m args c meth cX11_isBar 2 RX11 "isBar" (some .boolean) P)  (M : Mm) (a0 : Nat) (a1 : Int32) (h : fX11_isBar M a0 a1 = some r9) : Wq p l e s m args below meth c 1 0 (some (.int r9)) M 2 P 0 0 [(0, .ref (pB P + a0)), (1, .int a1)] [] M := by
  unfold fX11_isBar at h
  obtain ⟨_, _, h⟩ := ob h
  have hX0 := hX
  obtain ⟨X, hr, hlk, hnm⟩ := hX0
  have hx := X.1.1
  have hb := X.1.2.1
  intro H locs ls hM hl
  refine lv_iload_n (pc := 0) hx hb dX11_isBar_0 rfl (lv_at hl 1 rfl) ?_
  refine lv_i2l (pc := 1) (v := ((a1).toInt64)) hx hb dX11_isBar_1 rfl ?_
  refine lv_lconst (pc := 2) (v := (0 : Int64)) hx hb dX11_isBar_2 (by decide) ?_
  refine lv_aload_n (pc := 3) hx hb dX11_isBar_3 rfl (lv_at hl 0 rfl) ?_
  obtain ⟨q1, e2, h⟩ := ob h
  refine bz_getQ (pc := 4) X hM fl_RX11_9 e2 dX11_isBar_4 ?_
  refine lv_iconst (pc := 7) (v := (0 : Int32)) hx hb dX11_isBar_7 (by decide) ?_
  obtain ⟨v3, e4, h⟩ := ob h
  refine bz_iald (pc := 8) X hM e4 dX11_isBar_8 ?_
  refine lv_iconst (pc := 9) (v := (1 : Int32)) hx hb dX11_isBar_9 (by decide) ?_
  refine lv_isub (pc := 10) hx hb dX11_isBar_10 ?_
  refine lv_i2l (pc := 11) (v := (((v3 - (1 : Int32))).toInt64)) hx hb dX11_isBar_11 rfl ?_
  obtain ⟨v6, e5, h⟩ := ob h
  refine bz_callS1 (pc := 12) (As := [.long ((a1).toInt64), .long (0 : Int64), .long (((v3 - (1 : Int32))).toInt64)]) (rest := []) X hM hl.1 k_RX11_57 (ctX11_in l e5) rfl rfl ⟨(Nat.le_of_ble_eq_true rfl), (Nat.le_of_ble_eq_true rfl)⟩ (Nat.le_of_ble_eq_true rfl) ⟨(Nat.le_of_ble_eq_true rfl), (Nat.le_of_ble_eq_true rfl)⟩ dX11_isBar_12 (fun H locs hM => ?_)
  obtain ⟨v7, e8, h⟩ := ob h
  obtain rfl := so1 h
  exact bz_zretz (pc := 15) X hM hr hlk e8 dX11_isBar_15 (Nat.le_of_ble_eq_true rfl) (Nat.le_of_ble_eq_true rfl)
theorem rX11_isBar {M : Mm} {a0 : Nat} {a1 : Int32} {r9 : Int32} (h : fX11_isBar M a0 a1 = some r9) : ∃ fs, M[a0]? = some (.inr (11, fs)) := by
  unfold fX11_isBar at h
  obtain ⟨_, e1, _⟩ := ob h
  exact gC_spec e1
theorem ctX11_isBar (l : Launch) {P : PT} {M : Mm} {a0 : Nat} {a1 : Int32} {r9 : Int32} (h : fX11_isBar M a0 a1 = some r9) : Ct l yX11_isBar cX11_isBar 2 (some .boolean) 1 0 P [.ref (pB P + a0), .int a1] M (some (.int r9)) M :=
  Ct.mk (by decide +kernel) (Nat.le_of_ble_eq_true rfl) (fun p e s m args below meth c hX => wX11_isBar hX M a0 a1 h)
set_option maxHeartbeats 4000000 in
set_option maxRecDepth 100000 in
theorem wX11_mayRing {p : Program} {l : Launch} {e : Env} {s : State} {m : MethodId} {args : Array Value} {below : List Frame} {meth : Method} {c : Code} {P : PT}  {r9 : Int32} (hX : Cy p s m args c meth cX11_mayRing 2 RX11 "mayRing" (some .boolean) P)  (M : Mm) (a0 : Int32) (a1 : Int32) (h : fX11_mayRing M a0 a1 = some r9) : Wq p l e s m args below meth c 1 0 (some (.int r9)) M 2 P 0 0 [(0, .int a0), (1, .int a1)] [] M := by
  unfold fX11_mayRing at h
  have hX0 := hX
  obtain ⟨X, hr, hlk, hnm⟩ := hX0
  have hx := X.1.1
  have hb := X.1.2.1
  intro H locs ls hM hl
  refine lv_iload_n (pc := 0) hx hb dX11_mayRing_0 rfl (lv_at hl 0 rfl) ?_
  refine lv_i2l (pc := 1) (v := ((a0).toInt64)) hx hb dX11_mayRing_1 rfl ?_
  refine lv_lconst (pc := 2) (v := (0 : Int64)) hx hb dX11_mayRing_2 (by decide) ?_
  refine lv_ldc2 (pc := 3) (v := (9999 : Int64)) hx hb X.1.2.2.2.1 (X.1.2.2.2.2 _ g_1297) dX11_mayRing_3 ?_
  obtain ⟨v2, e1, h⟩ := ob h
  refine bz_callS1 (pc := 6) (As := [.long ((a0).toInt64), .long (0 : Int64), .long (9999 : Int64)]) (rest := []) X hM hl.1 k_RX11_57 (ctX11_in l e1) rfl rfl ⟨(Nat.le_of_ble_eq_true rfl), (Nat.le_of_ble_eq_true rfl)⟩ (Nat.le_of_ble_eq_true rfl) ⟨(Nat.le_of_ble_eq_true rfl), (Nat.le_of_ble_eq_true rfl)⟩ dX11_mayRing_6 (fun H locs hM => ?_)
  refine lv_if_eq (pc := 9) (tgt := 28) hx hb dX11_mayRing_9 (by decide) (fun hc => ?_) (fun hc => ?_)
  · have h := if_t hc h
    refine lv_iconst (pc := 28) (v := (0 : Int32)) hx hb dX11_mayRing_28 (by decide) ?_
    obtain rfl := so1 h
    exact bz_zret (pc := 29) X hM hr hlk (by decide) dX11_mayRing_29 (Nat.le_of_ble_eq_true rfl) (Nat.le_of_ble_eq_true rfl)
  · have h := if_f hc h
    refine lv_iload_n (pc := 12) hx hb dX11_mayRing_12 rfl (lv_at hl 1 rfl) ?_
    refine lv_i2l (pc := 13) (v := ((a1).toInt64)) hx hb dX11_mayRing_13 rfl ?_
    refine lv_lconst (pc := 14) (v := (1 : Int64)) hx hb dX11_mayRing_14 (by decide) ?_
    refine lv_ldc2 (pc := 15) (v := (999 : Int64)) hx hb X.1.2.2.2.1 (X.1.2.2.2.2 _ g_1276) dX11_mayRing_15 ?_
    obtain ⟨v4, e3, h⟩ := ob h
    refine bz_callS1 (pc := 18) (As := [.long ((a1).toInt64), .long (1 : Int64), .long (999 : Int64)]) (rest := []) X hM hl.1 k_RX11_57 (ctX11_in l e3) rfl rfl ⟨(Nat.le_of_ble_eq_true rfl), (Nat.le_of_ble_eq_true rfl)⟩ (Nat.le_of_ble_eq_true rfl) ⟨(Nat.le_of_ble_eq_true rfl), (Nat.le_of_ble_eq_true rfl)⟩ dX11_mayRing_18 (fun H locs hM => ?_)
    refine lv_if_eq (pc := 21) (tgt := 28) hx hb dX11_mayRing_21 (by decide) (fun hc => ?_) (fun hc => ?_)
    · have h := if_t hc h
      refine lv_iconst (pc := 28) (v := (0 : Int32)) hx hb dX11_mayRing_28 (by decide) ?_
      obtain rfl := so1 h
      exact bz_zret (pc := 29) X hM hr hlk (by decide) dX11_mayRing_29 (Nat.le_of_ble_eq_true rfl) (Nat.le_of_ble_eq_true rfl)
    · have h := if_f hc h
      refine lv_iconst (pc := 24) (v := (1 : Int32)) hx hb dX11_mayRing_24 (by decide) ?_
      refine lv_goto (pc := 25) (tgt := 29) hx hb dX11_mayRing_25 (by decide) ?_
      obtain rfl := so1 h
      exact bz_zret (pc := 29) X hM hr hlk (by decide) dX11_mayRing_29 (Nat.le_of_ble_eq_true rfl) (Nat.le_of_ble_eq_true rfl)
theorem ctX11_mayRing (l : Launch) {P : PT} {M : Mm} {a0 : Int32} {a1 : Int32} {r9 : Int32} (h : fX11_mayRing M a0 a1 = some r9) : Ct l yX11_mayRing cX11_mayRing 2 (some .boolean) 1 0 P [.int a0, .int a1] M (some (.int r9)) M :=
  Ct.mk (by decide +kernel) (Nat.le_of_ble_eq_true rfl) (fun p e s m args below meth c hX => wX11_mayRing hX M a0 a1 h)
set_option maxHeartbeats 4000000 in
set_option maxRecDepth 100000 in
theorem wX11_rings {p : Program} {l : Launch} {e : Env} {s : State} {m : MethodId} {args : Array Value} {below : List Frame} {meth : Method} {c : Code} {P : PT}  {M9 : Mm} (hX : Cy p s m args c meth cX11_rings 5 RX11 "rings" none P)  (M : Mm) (a0 : Nat) (a1 : Int32) (a2 : Int32) (a3 : Int32) (h : fX11_rings M a0 a1 a2 a3 = some M9) : Wq p l e s m args below meth c 0 0 none M9 5 P 0 0 [(0, .ref (pB P + a0)), (1, .int a1), (2, .int a2), (3, .int a3)] [] M := by
  unfold fX11_rings at h
  obtain ⟨_, _, h⟩ := ob h
  have hX0 := hX
  obtain ⟨X, hr, hlk, hnm⟩ := hX0
  have hx := X.1.1
  have hb := X.1.2.1
  intro H locs ls hM hl
  refine lv_bipush (pc := 0) (v := (18 : Int32)) hx hb dX11_rings_0 (by decide) ?_
  refine lv_iconst (pc := 2) (v := (3 : Int32)) hx hb dX11_rings_2 (by decide) ?_
  refine lv_aload_n (pc := 3) hx hb dX11_rings_3 rfl (lv_at hl 0 rfl) ?_
  obtain ⟨q1, e2, h⟩ := ob h
  refine bz_getQ (pc := 4) X hM fl_RX11_9 e2 dX11_rings_4 ?_
  refine lv_iconst (pc := 7) (v := (1 : Int32)) hx hb dX11_rings_7 (by decide) ?_
  obtain ⟨v3, e4, h⟩ := ob h
  refine bz_iald (pc := 8) X hM e4 dX11_rings_8 ?_
  refine lv_imul (pc := 9) hx hb dX11_rings_9 ?_
  refine lv_iadd (pc := 10) hx hb dX11_rings_10 ?_
  refine lv_istore (pc := 11) (lv' := [(4, .int ((18 : Int32) + ((3 : Int32) * v3))), (0, .ref (pB P + a0)), (1, .int a1), (2, .int a2), (3, .int a3)]) hx hb dX11_rings_11 hl (by decide) rfl (fun ls hl => ?_)
  refine lv_aload_n (pc := 13) hx hb dX11_rings_13 rfl (lv_at hl 1 rfl) ?_
  obtain ⟨q5, e6, h⟩ := ob h
  refine bz_getQ (pc := 14) X hM fl_RX11_9 e6 dX11_rings_14 ?_
  refine lv_iload (pc := 17) hx hb dX11_rings_17 (lv_at hl 0 rfl) ?_
  refine lv_iload_n (pc := 19) hx hb dX11_rings_19 rfl (lv_at hl 2 rfl) ?_
  obtain ⟨M7, e8, h⟩ := ob h
  refine bz_iast (pc := 20) X hM e8 dX11_rings_20 (fun H locs hM => ?_)
  refine lv_aload_n (pc := 21) hx hb dX11_rings_21 rfl (lv_at hl 1 rfl) ?_
  obtain ⟨q9, e10, h⟩ := ob h
  refine bz_getQ (pc := 22) X hM fl_RX11_9 e10 dX11_rings_22 ?_
  refine lv_iload (pc := 25) hx hb dX11_rings_25 (lv_at hl 0 rfl) ?_
  refine lv_iconst (pc := 27) (v := (1 : Int32)) hx hb dX11_rings_27 (by decide) ?_
  refine lv_iadd (pc := 28) hx hb dX11_rings_28 ?_
  refine lv_iload_n (pc := 29) hx hb dX11_rings_29 rfl (lv_at hl 3 rfl) ?_
  obtain ⟨M11, e12, h⟩ := ob h
  refine bz_iast (pc := 30) X hM e12 dX11_rings_30 (fun H locs hM => ?_)
  refine lv_aload_n (pc := 31) hx hb dX11_rings_31 rfl (lv_at hl 1 rfl) ?_
  obtain ⟨q13, e14, h⟩ := ob h
  refine bz_getQ (pc := 32) X hM fl_RX11_9 e14 dX11_rings_32 ?_
  refine lv_iload (pc := 35) hx hb dX11_rings_35 (lv_at hl 0 rfl) ?_
  refine lv_iconst (pc := 37) (v := (2 : Int32)) hx hb dX11_rings_37 (by decide) ?_
  refine lv_iadd (pc := 38) hx hb dX11_rings_38 ?_
  refine lv_iload_n (pc := 39) hx hb dX11_rings_39 rfl (lv_at hl 4 rfl) ?_
  obtain ⟨M15, e16, h⟩ := ob h
  refine bz_iast (pc := 40) X hM e16 dX11_rings_40 (fun H locs hM => ?_)
  refine lv_aload_n (pc := 41) hx hb dX11_rings_41 rfl (lv_at hl 1 rfl) ?_
  obtain ⟨q17, e18, h⟩ := ob h
  refine bz_getQ (pc := 42) X hM fl_RX11_9 e18 dX11_rings_42 ?_
  refine lv_iconst (pc := 45) (v := (1 : Int32)) hx hb dX11_rings_45 (by decide) ?_
  refine lv_dup2_11 (pc := 46) hx hb dX11_rings_46 rfl rfl ?_
  obtain ⟨v19, e20, h⟩ := ob h
  refine bz_iald (pc := 47) X hM e20 dX11_rings_47 ?_
  refine lv_iconst (pc := 48) (v := (1 : Int32)) hx hb dX11_rings_48 (by decide) ?_
  refine lv_iadd (pc := 49) hx hb dX11_rings_49 ?_
  obtain ⟨M21, e22, h⟩ := ob h
  refine bz_iast (pc := 50) X hM e22 dX11_rings_50 (fun H locs hM => ?_)
  obtain rfl := so1 h
  exact bz_vret (pc := 51) X hM hr hlk dX11_rings_51 (Nat.le_of_ble_eq_true rfl) (Nat.le_of_ble_eq_true rfl)
theorem rX11_rings {M : Mm} {a0 : Nat} {a1 : Int32} {a2 : Int32} {a3 : Int32} {r9 : Mm} (h : fX11_rings M a0 a1 a2 a3 = some r9) : ∃ fs, M[a0]? = some (.inr (11, fs)) := by
  unfold fX11_rings at h
  obtain ⟨_, e1, _⟩ := ob h
  exact gC_spec e1
theorem ctX11_rings (l : Launch) {P : PT} {M : Mm} {a0 : Nat} {a1 : Int32} {a2 : Int32} {a3 : Int32} {M9 : Mm} (h : fX11_rings M a0 a1 a2 a3 = some M9) : Ct l yX11_rings cX11_rings 5 none 0 0 P [.ref (pB P + a0), .int a1, .int a2, .int a3] M none M9 :=
  Ct.mk (by decide +kernel) (Nat.le_of_ble_eq_true rfl) (fun p e s m args below meth c hX => wX11_rings hX M a0 a1 a2 a3 h)
set_option maxHeartbeats 4000000 in
set_option maxRecDepth 100000 in
theorem wjX11_ring__16 {p : Program} {l : Launch} {e : Env} {s : State} {m : MethodId} {args : Array Value} {below : List Frame} {meth : Method} {c : Code} {P : PT}  {r9 : Int32} {M9 : Mm} (hX : Cy p s m args c meth cX11_ring_ 4 RX11 "ring" (some .int) P)   (M : Mm) (x0 : Nat)  (h : jX11_ring__16 M x0 = some (r9, M9)) : Wq p l e s m args below meth c 2 0 (some (.int r9)) M9 4 P 0 16 [(0, .ref (pB P + x0))] [] M := by
  unfold jX11_ring__16 at h
  have hX0 := hX
  obtain ⟨X, hr, hlk, hnm⟩ := hX0
  have hx := X.1.1
  have hb := X.1.2.1
  intro H locs ls hM hl
  refine lv_aload_n (pc := 16) hx hb dX11_ring__16 rfl (lv_at hl 0 rfl) ?_
  refine lv_iconst (pc := 17) (v := (1 : Int32)) hx hb dX11_ring__17 (by decide) ?_
  obtain ⟨v2, M3, e1, h⟩ := ob2 h
  obtain ⟨fs4, hb5⟩ := (rX11_error e1)
  refine bz_callV1 (pc := 18) (As := [.int (1 : Int32)]) (rest := []) X hM hl.1 k_RX11_73 (ctX11_error l e1) rfl hb5 rfl rfl ⟨(Nat.le_of_ble_eq_true rfl), (Nat.le_of_ble_eq_true rfl)⟩ (Nat.le_of_ble_eq_true rfl) ⟨(Nat.le_of_ble_eq_true rfl), (Nat.le_of_ble_eq_true rfl)⟩ dX11_ring__18 (fun H locs hM => ?_)
  obtain ⟨rfl, rfl⟩ := so2 h
  exact bz_iret (pc := 21) X hM hr hlk dX11_ring__21 (Nat.le_of_ble_eq_true rfl) (Nat.le_of_ble_eq_true rfl)
set_option maxHeartbeats 4000000 in
set_option maxRecDepth 100000 in
theorem wX11_ring_ {p : Program} {l : Launch} {e : Env} {s : State} {m : MethodId} {args : Array Value} {below : List Frame} {meth : Method} {c : Code} {P : PT}  {r9 : Int32} {M9 : Mm} (hX : Cy p s m args c meth cX11_ring_ 4 RX11 "ring" (some .int) P)  (M : Mm) (a0 : Nat) (a1 : Int32) (a2 : Int32) (a3 : Int32) (h : fX11_ring_ M a0 a1 a2 a3 = some (r9, M9)) : Wq p l e s m args below meth c 2 0 (some (.int r9)) M9 4 P 0 0 [(0, .ref (pB P + a0)), (1, .int a1), (2, .int a2), (3, .int a3)] [] M := by
  unfold fX11_ring_ at h
  obtain ⟨_, _, h⟩ := ob h
  have hX0 := hX
  obtain ⟨X, hr, hlk, hnm⟩ := hX0
  have hx := X.1.1
  have hb := X.1.2.1
  intro H locs ls hM hl
  refine lv_aload_n (pc := 0) hx hb dX11_ring__0 rfl (lv_at hl 0 rfl) ?_
  refine lv_iload_n (pc := 1) hx hb dX11_ring__1 rfl (lv_at hl 1 rfl) ?_
  obtain ⟨v2, e1, h⟩ := ob h
  obtain ⟨fs3, hb4⟩ := (rX11_isBar e1)
  refine bz_callV1 (pc := 2) (As := [.int a1]) (rest := []) X hM hl.1 k_RX11_65 (ctX11_isBar l e1) rfl hb4 rfl rfl ⟨(Nat.le_of_ble_eq_true rfl), (Nat.le_of_ble_eq_true rfl)⟩ (Nat.le_of_ble_eq_true rfl) ⟨(Nat.le_of_ble_eq_true rfl), (Nat.le_of_ble_eq_true rfl)⟩ dX11_ring__2 (fun H locs hM => ?_)
  refine lv_if_eq (pc := 5) (tgt := 16) hx hb dX11_ring__5 (by decide) (fun hc => ?_) (fun hc => ?_)
  · have h := if_t hc h
    exact wjX11_ring__16 hX _ _ h H locs ls hM (lv_sub hl [0] rfl)
  · have h := if_f hc h
    refine lv_iload_n (pc := 8) hx hb dX11_ring__8 rfl (lv_at hl 2 rfl) ?_
    refine lv_iload_n (pc := 9) hx hb dX11_ring__9 rfl (lv_at hl 3 rfl) ?_
    obtain ⟨v6, e5, h⟩ := ob h
    refine bz_callS1 (pc := 10) (As := [.int a2, .int a3]) (rest := []) X hM hl.1 k_RX11_79 (ctX11_mayRing l e5) rfl rfl ⟨(Nat.le_of_ble_eq_true rfl), (Nat.le_of_ble_eq_true rfl)⟩ (Nat.le_of_ble_eq_true rfl) ⟨(Nat.le_of_ble_eq_true rfl), (Nat.le_of_ble_eq_true rfl)⟩ dX11_ring__10 (fun H locs hM => ?_)
    refine lv_if_ne (pc := 13) (tgt := 22) hx hb dX11_ring__13 (by decide) (fun hc => ?_) (fun hc => ?_)
    · have h := if_f hc h
      refine lv_aload_n (pc := 22) hx hb dX11_ring__22 rfl (lv_at hl 0 rfl) ?_
      obtain ⟨q7, e8, h⟩ := ob h
      refine bz_getQ (pc := 23) X hM fl_RX11_9 e8 dX11_ring__23 ?_
      refine lv_iconst (pc := 26) (v := (1 : Int32)) hx hb dX11_ring__26 (by decide) ?_
      obtain ⟨v9, e10, h⟩ := ob h
      refine bz_iald (pc := 27) X hM e10 dX11_ring__27 ?_
      refine lv_bipush (pc := 28) (v := (96 : Int32)) hx hb dX11_ring__28 (by decide) ?_
      refine lv_icmp_ne (pc := 30) (tgt := 39) hx hb dX11_ring__30 (by decide) (fun hc => ?_) (fun hc => ?_)
      · have h := if_f hc h
        refine lv_aload_n (pc := 39) hx hb dX11_ring__39 rfl (lv_at hl 0 rfl) ?_
        refine lv_iload_n (pc := 40) hx hb dX11_ring__40 rfl (lv_at hl 1 rfl) ?_
        refine lv_iload_n (pc := 41) hx hb dX11_ring__41 rfl (lv_at hl 2 rfl) ?_
        refine lv_iload_n (pc := 42) hx hb dX11_ring__42 rfl (lv_at hl 3 rfl) ?_
        obtain ⟨M12, e11, h⟩ := ob h
        obtain ⟨fs13, hb14⟩ := (rX11_rings e11)
        refine bz_callV0 (pc := 43) (As := [.int a1, .int a2, .int a3]) (rest := []) X hM hl.1 k_RX11_83 (ctX11_rings l e11) rfl hb14 rfl rfl ⟨(Nat.le_of_ble_eq_true rfl), (Nat.le_of_ble_eq_true rfl)⟩ (Nat.le_of_ble_eq_true rfl) ⟨(Nat.le_of_ble_eq_true rfl), (Nat.le_of_ble_eq_true rfl)⟩ dX11_ring__43 (fun H locs hM => ?_)
        refine lv_aload_n (pc := 46) hx hb dX11_ring__46 rfl (lv_at hl 0 rfl) ?_
        obtain ⟨q15, e16, h⟩ := ob h
        refine bz_getQ (pc := 47) X hM fl_RX11_9 e16 dX11_ring__47 ?_
        refine lv_iconst (pc := 50) (v := (1 : Int32)) hx hb dX11_ring__50 (by decide) ?_
        obtain ⟨v17, e18, h⟩ := ob h
        refine bz_iald (pc := 51) X hM e18 dX11_ring__51 ?_
        refine lv_iconst (pc := 52) (v := (1 : Int32)) hx hb dX11_ring__52 (by decide) ?_
        refine lv_isub (pc := 53) hx hb dX11_ring__53 ?_
        obtain ⟨rfl, rfl⟩ := so2 h
        exact bz_iret (pc := 54) X hM hr hlk dX11_ring__54 (Nat.le_of_ble_eq_true rfl) (Nat.le_of_ble_eq_true rfl)
      · have h := if_t hc h
        refine lv_aload_n (pc := 33) hx hb dX11_ring__33 rfl (lv_at hl 0 rfl) ?_
        refine lv_iconst (pc := 34) (v := (4 : Int32)) hx hb dX11_ring__34 (by decide) ?_
        obtain ⟨v20, M21, e19, h⟩ := ob2 h
        obtain ⟨fs22, hb23⟩ := (rX11_error e19)
        refine bz_callV1 (pc := 35) (As := [.int (4 : Int32)]) (rest := []) X hM hl.1 k_RX11_73 (ctX11_error l e19) rfl hb23 rfl rfl ⟨(Nat.le_of_ble_eq_true rfl), (Nat.le_of_ble_eq_true rfl)⟩ (Nat.le_of_ble_eq_true rfl) ⟨(Nat.le_of_ble_eq_true rfl), (Nat.le_of_ble_eq_true rfl)⟩ dX11_ring__35 (fun H locs hM => ?_)
        obtain ⟨rfl, rfl⟩ := so2 h
        exact bz_iret (pc := 38) X hM hr hlk dX11_ring__38 (Nat.le_of_ble_eq_true rfl) (Nat.le_of_ble_eq_true rfl)
    · have h := if_t hc h
      exact wjX11_ring__16 hX _ _ h H locs ls hM (lv_sub hl [0] rfl)
theorem rX11_ring_ {M : Mm} {a0 : Nat} {a1 : Int32} {a2 : Int32} {a3 : Int32} {r9 : Int32 × Mm} (h : fX11_ring_ M a0 a1 a2 a3 = some r9) : ∃ fs, M[a0]? = some (.inr (11, fs)) := by
  unfold fX11_ring_ at h
  obtain ⟨_, e1, _⟩ := ob h
  exact gC_spec e1
theorem ctX11_ring_ (l : Launch) {P : PT} {M : Mm} {a0 : Nat} {a1 : Int32} {a2 : Int32} {a3 : Int32} {r9 : Int32} {M9 : Mm} (h : fX11_ring_ M a0 a1 a2 a3 = some (r9, M9)) : Ct l yX11_ring_ cX11_ring_ 4 (some .int) 2 0 P [.ref (pB P + a0), .int a1, .int a2, .int a3] M (some (.int r9)) M9 :=
  Ct.mk (by decide +kernel) (Nat.le_of_ble_eq_true rfl) (fun p e s m args below meth c hX => wX11_ring_ hX M a0 a1 a2 a3 h)
set_option maxHeartbeats 4000000 in
set_option maxRecDepth 100000 in
theorem wX10_isRing {p : Program} {l : Launch} {e : Env} {s : State} {m : MethodId} {args : Array Value} {below : List Frame} {meth : Method} {c : Code} {P : PT}  {r9 : Int32} (hX : Cy p s m args c meth cX10_isRing 2 RX10 "isRing" (some .boolean) P)  (M : Mm) (a0 : Nat) (a1 : Int32) (h : fX10_isRing M a0 a1 = some r9) : Wq p l e s m args below meth c 2 0 (some (.int r9)) M 2 P 0 0 [(0, .ref (pB P + a0)), (1, .int a1)] [] M := by
  unfold fX10_isRing at h
  obtain ⟨_, _, h⟩ := ob h
  have hX0 := hX
  obtain ⟨X, hr, hlk, hnm⟩ := hX0
  have hx := X.1.1
  have hb := X.1.2.1
  intro H locs ls hM hl
  refine lv_iload_n (pc := 0) hx hb dX10_isRing_0 rfl (lv_at hl 1 rfl) ?_
  refine lv_iconst (pc := 1) (v := (0 : Int32)) hx hb dX10_isRing_1 (by decide) ?_
  refine lv_aload_n (pc := 2) hx hb dX10_isRing_2 rfl (lv_at hl 0 rfl) ?_
  obtain ⟨q1, e2, h⟩ := ob h
  refine bz_getQ (pc := 3) X hM fl_RX10_10 e2 dX10_isRing_3 ?_
  obtain ⟨v4, e3, h⟩ := ob h
  obtain ⟨fs5, hb6⟩ := (rX6_rings e3)
  refine bz_callV1 (pc := 6) (As := []) (rest := [.int (0 : Int32), .int a1]) X hM hl.1 k_RX10_112 (ctX6_rings l e3) rfl hb6 rfl rfl ⟨(Nat.le_of_ble_eq_true rfl), (Nat.le_of_ble_eq_true rfl)⟩ (Nat.le_of_ble_eq_true rfl) ⟨(Nat.le_of_ble_eq_true rfl), (Nat.le_of_ble_eq_true rfl)⟩ dX10_isRing_6 (fun H locs hM => ?_)
  refine lv_iconst (pc := 9) (v := (1 : Int32)) hx hb dX10_isRing_9 (by decide) ?_
  refine lv_isub (pc := 10) hx hb dX10_isRing_10 ?_
  obtain ⟨v8, e7, h⟩ := ob h
  refine bz_callS1 (pc := 11) (As := [.int a1, .int (0 : Int32), .int (v4 - (1 : Int32))]) (rest := []) X hM hl.1 k_RX10_74 (ctX10_within l e7) rfl rfl ⟨(Nat.le_of_ble_eq_true rfl), (Nat.le_of_ble_eq_true rfl)⟩ (Nat.le_of_ble_eq_true rfl) ⟨(Nat.le_of_ble_eq_true rfl), (Nat.le_of_ble_eq_true rfl)⟩ dX10_isRing_11 (fun H locs hM => ?_)
  obtain ⟨v9, e10, h⟩ := ob h
  obtain rfl := so1 h
  exact bz_zretz (pc := 14) X hM hr hlk e10 dX10_isRing_14 (Nat.le_of_ble_eq_true rfl) (Nat.le_of_ble_eq_true rfl)
theorem rX10_isRing {M : Mm} {a0 : Nat} {a1 : Int32} {r9 : Int32} (h : fX10_isRing M a0 a1 = some r9) : ∃ fs, M[a0]? = some (.inr (10, fs)) := by
  unfold fX10_isRing at h
  obtain ⟨_, e1, _⟩ := ob h
  exact gC_spec e1
theorem ctX10_isRing (l : Launch) {P : PT} {M : Mm} {a0 : Nat} {a1 : Int32} {r9 : Int32} (h : fX10_isRing M a0 a1 = some r9) : Ct l yX10_isRing cX10_isRing 2 (some .boolean) 2 0 P [.ref (pB P + a0), .int a1] M (some (.int r9)) M :=
  Ct.mk (by decide +kernel) (Nat.le_of_ble_eq_true rfl) (fun p e s m args below meth c hX => wX10_isRing hX M a0 a1 h)
set_option maxHeartbeats 4000000 in
set_option maxRecDepth 100000 in
theorem wX3_at {p : Program} {l : Launch} {e : Env} {s : State} {m : MethodId} {args : Array Value} {below : List Frame} {meth : Method} {c : Code} {P : PT}  {r9 : Int32} (hX : Cy p s m args c meth cX3_at 2 RX3 "at" (some .int) P)  (M : Mm) (a0 : Nat) (a1 : Int32) (h : fX3_at M a0 a1 = some r9) : Wq p l e s m args below meth c 0 0 (some (.int r9)) M 2 P 0 0 [(0, .ref (pB P + a0)), (1, .int a1)] [] M := by
  unfold fX3_at at h
  obtain ⟨_, _, h⟩ := ob h
  have hX0 := hX
  obtain ⟨X, hr, hlk, hnm⟩ := hX0
  have hx := X.1.1
  have hb := X.1.2.1
  intro H locs ls hM hl
  refine lv_iload_n (pc := 0) hx hb dX3_at_0 rfl (lv_at hl 1 rfl) ?_
  refine lv_if_lt (pc := 1) (tgt := 30) hx hb dX3_at_1 (by decide) (fun hc => ?_) (fun hc => ?_)
  · have h := if_t hc h
    refine lv_iconst (pc := 30) (v := (0 : Int32)) hx hb dX3_at_30 (by decide) ?_
    obtain rfl := so1 h
    exact bz_iret (pc := 31) X hM hr hlk dX3_at_31 (Nat.le_of_ble_eq_true rfl) (Nat.le_of_ble_eq_true rfl)
  · have h := if_f hc h
    refine lv_iload_n (pc := 4) hx hb dX3_at_4 rfl (lv_at hl 1 rfl) ?_
    refine lv_aload_n (pc := 5) hx hb dX3_at_5 rfl (lv_at hl 0 rfl) ?_
    obtain ⟨v1, e2, h⟩ := ob h
    refine bz_getI (pc := 6) X hM fl_RX3_19 e2 dX3_at_6 ?_
    refine lv_icmp_ge (pc := 9) (tgt := 30) hx hb dX3_at_9 (by decide) (fun hc => ?_) (fun hc => ?_)
    · have h := if_t hc h
      refine lv_iconst (pc := 30) (v := (0 : Int32)) hx hb dX3_at_30 (by decide) ?_
      obtain rfl := so1 h
      exact bz_iret (pc := 31) X hM hr hlk dX3_at_31 (Nat.le_of_ble_eq_true rfl) (Nat.le_of_ble_eq_true rfl)
    · have h := if_f hc h
      refine lv_iload_n (pc := 12) hx hb dX3_at_12 rfl (lv_at hl 1 rfl) ?_
      refine lv_aload_n (pc := 13) hx hb dX3_at_13 rfl (lv_at hl 0 rfl) ?_
      obtain ⟨q3, e4, h⟩ := ob h
      refine bz_getQ (pc := 14) X hM fl_RX3_13 e4 dX3_at_14 ?_
      obtain ⟨v5, e6, h⟩ := ob h
      refine bz_alen (pc := 17) X hM e6 dX3_at_17 ?_
      refine lv_icmp_ge (pc := 18) (tgt := 30) hx hb dX3_at_18 (by decide) (fun hc => ?_) (fun hc => ?_)
      · have h := if_t hc h
        refine lv_iconst (pc := 30) (v := (0 : Int32)) hx hb dX3_at_30 (by decide) ?_
        obtain rfl := so1 h
        exact bz_iret (pc := 31) X hM hr hlk dX3_at_31 (Nat.le_of_ble_eq_true rfl) (Nat.le_of_ble_eq_true rfl)
      · have h := if_f hc h
        refine lv_aload_n (pc := 21) hx hb dX3_at_21 rfl (lv_at hl 0 rfl) ?_
        obtain ⟨q7, e8, h⟩ := ob h
        refine bz_getQ (pc := 22) X hM fl_RX3_13 e8 dX3_at_22 ?_
        refine lv_iload_n (pc := 25) hx hb dX3_at_25 rfl (lv_at hl 1 rfl) ?_
        obtain ⟨v9, e10, h⟩ := ob h
        refine bz_iald (pc := 26) X hM e10 dX3_at_26 ?_
        refine lv_goto (pc := 27) (tgt := 31) hx hb dX3_at_27 (by decide) ?_
        obtain rfl := so1 h
        exact bz_iret (pc := 31) X hM hr hlk dX3_at_31 (Nat.le_of_ble_eq_true rfl) (Nat.le_of_ble_eq_true rfl)
theorem rX3_at {M : Mm} {a0 : Nat} {a1 : Int32} {r9 : Int32} (h : fX3_at M a0 a1 = some r9) : ∃ fs, M[a0]? = some (.inr (3, fs)) := by
  unfold fX3_at at h
  obtain ⟨_, e1, _⟩ := ob h
  exact gC_spec e1
theorem ctX3_at (l : Launch) {P : PT} {M : Mm} {a0 : Nat} {a1 : Int32} {r9 : Int32} (h : fX3_at M a0 a1 = some r9) : Ct l yX3_at cX3_at 2 (some .int) 0 0 P [.ref (pB P + a0), .int a1] M (some (.int r9)) M :=
  Ct.mk (by decide +kernel) (Nat.le_of_ble_eq_true rfl) (fun p e s m args below meth c hX => wX3_at hX M a0 a1 h)
set_option maxHeartbeats 4000000 in
set_option maxRecDepth 100000 in
theorem wX6_clockOf {p : Program} {l : Launch} {e : Env} {s : State} {m : MethodId} {args : Array Value} {below : List Frame} {meth : Method} {c : Code} {P : PT}  {r9 : Int32} (hX : Cy p s m args c meth cX6_clockOf 2 RX6 "clockOf" (some .int) P)  (M : Mm) (a0 : Nat) (a1 : Int32) (h : fX6_clockOf M a0 a1 = some r9) : Wq p l e s m args below meth c 1 0 (some (.int r9)) M 2 P 0 0 [(0, .ref (pB P + a0)), (1, .int a1)] [] M := by
  unfold fX6_clockOf at h
  obtain ⟨_, _, h⟩ := ob h
  have hX0 := hX
  obtain ⟨X, hr, hlk, hnm⟩ := hX0
  have hx := X.1.1
  have hb := X.1.2.1
  intro H locs ls hM hl
  refine lv_aload_n (pc := 0) hx hb dX6_clockOf_0 rfl (lv_at hl 0 rfl) ?_
  obtain ⟨q1, e2, h⟩ := ob h
  refine bz_getQ (pc := 1) X hM fl_RX6_14 e2 dX6_clockOf_1 ?_
  refine lv_aload_n (pc := 4) hx hb dX6_clockOf_4 rfl (lv_at hl 0 rfl) ?_
  obtain ⟨q3, e4, h⟩ := ob h
  refine bz_getQ (pc := 5) X hM fl_RX6_20 e4 dX6_clockOf_5 ?_
  refine lv_iload_n (pc := 8) hx hb dX6_clockOf_8 rfl (lv_at hl 1 rfl) ?_
  obtain ⟨v6, e5, h⟩ := ob h
  obtain ⟨fs7, hb8⟩ := (rX3_at e5)
  refine bz_callV1 (pc := 9) (As := [.int a1]) (rest := [.ref (pB P + q1)]) X hM hl.1 k_RX6_91 (ctX3_at l e5) rfl hb8 rfl rfl ⟨(Nat.le_of_ble_eq_true rfl), (Nat.le_of_ble_eq_true rfl)⟩ (Nat.le_of_ble_eq_true rfl) ⟨(Nat.le_of_ble_eq_true rfl), (Nat.le_of_ble_eq_true rfl)⟩ dX6_clockOf_9 (fun H locs hM => ?_)
  obtain ⟨v10, e9, h⟩ := ob h
  obtain ⟨fs11, hb12⟩ := (rX3_at e9)
  refine bz_callV1 (pc := 12) (As := [.int v6]) (rest := []) X hM hl.1 k_RX6_91 (ctX3_at l e9) rfl hb12 rfl rfl ⟨(Nat.le_of_ble_eq_true rfl), (Nat.le_of_ble_eq_true rfl)⟩ (Nat.le_of_ble_eq_true rfl) ⟨(Nat.le_of_ble_eq_true rfl), (Nat.le_of_ble_eq_true rfl)⟩ dX6_clockOf_12 (fun H locs hM => ?_)
  obtain rfl := so1 h
  exact bz_iret (pc := 15) X hM hr hlk dX6_clockOf_15 (Nat.le_of_ble_eq_true rfl) (Nat.le_of_ble_eq_true rfl)
theorem rX6_clockOf {M : Mm} {a0 : Nat} {a1 : Int32} {r9 : Int32} (h : fX6_clockOf M a0 a1 = some r9) : ∃ fs, M[a0]? = some (.inr (6, fs)) := by
  unfold fX6_clockOf at h
  obtain ⟨_, e1, _⟩ := ob h
  exact gC_spec e1
theorem ctX6_clockOf (l : Launch) {P : PT} {M : Mm} {a0 : Nat} {a1 : Int32} {r9 : Int32} (h : fX6_clockOf M a0 a1 = some r9) : Ct l yX6_clockOf cX6_clockOf 2 (some .int) 1 0 P [.ref (pB P + a0), .int a1] M (some (.int r9)) M :=
  Ct.mk (by decide +kernel) (Nat.le_of_ble_eq_true rfl) (fun p e s m args below meth c hX => wX6_clockOf hX M a0 a1 h)
set_option maxHeartbeats 4000000 in
set_option maxRecDepth 100000 in
theorem wX6_shownAt {p : Program} {l : Launch} {e : Env} {s : State} {m : MethodId} {args : Array Value} {below : List Frame} {meth : Method} {c : Code} {P : PT}  {r9 : Int32} (hX : Cy p s m args c meth cX6_shownAt 2 RX6 "shownAt" (some .int) P)  (M : Mm) (a0 : Nat) (a1 : Int32) (h : fX6_shownAt M a0 a1 = some r9) : Wq p l e s m args below meth c 2 0 (some (.int r9)) M 2 P 0 0 [(0, .ref (pB P + a0)), (1, .int a1)] [] M := by
  unfold fX6_shownAt at h
  obtain ⟨_, _, h⟩ := ob h
  have hX0 := hX
  obtain ⟨X, hr, hlk, hnm⟩ := hX0
  have hx := X.1.1
  have hb := X.1.2.1
  intro H locs ls hM hl
  refine lv_aload_n (pc := 0) hx hb dX6_shownAt_0 rfl (lv_at hl 0 rfl) ?_
  obtain ⟨q1, e2, h⟩ := ob h
  refine bz_getQ (pc := 1) X hM fl_RX6_26 e2 dX6_shownAt_1 ?_
  refine lv_iload_n (pc := 4) hx hb dX6_shownAt_4 rfl (lv_at hl 1 rfl) ?_
  obtain ⟨v4, e3, h⟩ := ob h
  obtain ⟨fs5, hb6⟩ := (rX3_at e3)
  refine bz_callV1 (pc := 5) (As := [.int a1]) (rest := []) X hM hl.1 k_RX6_91 (ctX3_at l e3) rfl hb6 rfl rfl ⟨(Nat.le_of_ble_eq_true rfl), (Nat.le_of_ble_eq_true rfl)⟩ (Nat.le_of_ble_eq_true rfl) ⟨(Nat.le_of_ble_eq_true rfl), (Nat.le_of_ble_eq_true rfl)⟩ dX6_shownAt_5 (fun H locs hM => ?_)
  refine lv_aload_n (pc := 8) hx hb dX6_shownAt_8 rfl (lv_at hl 0 rfl) ?_
  refine lv_aload_n (pc := 9) hx hb dX6_shownAt_9 rfl (lv_at hl 0 rfl) ?_
  obtain ⟨q7, e8, h⟩ := ob h
  refine bz_getQ (pc := 10) X hM fl_RX6_23 e8 dX6_shownAt_10 ?_
  refine lv_iload_n (pc := 13) hx hb dX6_shownAt_13 rfl (lv_at hl 1 rfl) ?_
  obtain ⟨v10, e9, h⟩ := ob h
  obtain ⟨fs11, hb12⟩ := (rX3_at e9)
  refine bz_callV1 (pc := 14) (As := [.int a1]) (rest := [.ref (pB P + a0), .int v4]) X hM hl.1 k_RX6_91 (ctX3_at l e9) rfl hb12 rfl rfl ⟨(Nat.le_of_ble_eq_true rfl), (Nat.le_of_ble_eq_true rfl)⟩ (Nat.le_of_ble_eq_true rfl) ⟨(Nat.le_of_ble_eq_true rfl), (Nat.le_of_ble_eq_true rfl)⟩ dX6_shownAt_14 (fun H locs hM => ?_)
  obtain ⟨v14, e13, h⟩ := ob h
  obtain ⟨fs15, hb16⟩ := (rX6_clockOf e13)
  refine bz_callV1 (pc := 17) (As := [.int v10]) (rest := [.int v4]) X hM hl.1 k_RX6_95 (ctX6_clockOf l e13) rfl hb16 rfl rfl ⟨(Nat.le_of_ble_eq_true rfl), (Nat.le_of_ble_eq_true rfl)⟩ (Nat.le_of_ble_eq_true rfl) ⟨(Nat.le_of_ble_eq_true rfl), (Nat.le_of_ble_eq_true rfl)⟩ dX6_shownAt_17 (fun H locs hM => ?_)
  refine lv_iadd (pc := 20) hx hb dX6_shownAt_20 ?_
  obtain rfl := so1 h
  exact bz_iret (pc := 21) X hM hr hlk dX6_shownAt_21 (Nat.le_of_ble_eq_true rfl) (Nat.le_of_ble_eq_true rfl)
theorem rX6_shownAt {M : Mm} {a0 : Nat} {a1 : Int32} {r9 : Int32} (h : fX6_shownAt M a0 a1 = some r9) : ∃ fs, M[a0]? = some (.inr (6, fs)) := by
  unfold fX6_shownAt at h
  obtain ⟨_, e1, _⟩ := ob h
  exact gC_spec e1
theorem ctX6_shownAt (l : Launch) {P : PT} {M : Mm} {a0 : Nat} {a1 : Int32} {r9 : Int32} (h : fX6_shownAt M a0 a1 = some r9) : Ct l yX6_shownAt cX6_shownAt 2 (some .int) 2 0 P [.ref (pB P + a0), .int a1] M (some (.int r9)) M :=
  Ct.mk (by decide +kernel) (Nat.le_of_ble_eq_true rfl) (fun p e s m args below meth c hX => wX6_shownAt hX M a0 a1 h)
