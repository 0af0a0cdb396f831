set_option maxHeartbeats 4000000 in
set_option maxRecDepth 100000 in
theorem wX11_isWindow {p : Program} {l : Launch} {e : Env} {s : State} {m : MethodId} {args : Array Value} {below : List Frame} {meth : Method} {c : Code} {P : PT}  {r9 : Int32} (hX : Cy p s m args c meth cX11_isWindow 1 RX11 "isWindow" (some .boolean) P)  (M : Mm) (a0 : Int32) (h : fX11_isWindow M a0 = some r9) : Wq p l e s m args below meth c 1 0 (some (.int r9)) M 1 P 0 0 [(0, .int a0)] [] M := by
  unfold fX11_isWindow at h
  have hX0 := hX
  obtain ⟨X, hr, hlk, hnm⟩ := hX0
  have hx := X.1.1
  have hb := X.1.2.1
  intro H locs ls hM hl
  refine lv_iload_n (pc := 0) hx hb dX11_isWindow_0 rfl (lv_at hl 0 rfl) ?_
  refine lv_i2l (pc := 1) (v := ((a0).toInt64)) hx hb dX11_isWindow_1 rfl ?_
  refine lv_lconst (pc := 2) (v := (0 : Int64)) hx hb dX11_isWindow_2 (by decide) ?_
  refine lv_ldc2 (pc := 3) (v := (50 : Int64)) hx hb X.1.2.2.2.1 (X.1.2.2.2.2 _ g_1375) dX11_isWindow_3 ?_
  obtain ⟨v2, e1, h⟩ := ob h
  refine bz_callS1 (pc := 6) (As := [.long ((a0).toInt64), .long (0 : Int64), .long (50 : Int64)]) (rest := []) X hM hl.1 k_RX11_57 (ctX11_in l e1) rfl rfl ⟨(Nat.le_of_ble_eq_true rfl), (Nat.le_of_ble_eq_true rfl)⟩ (Nat.le_of_ble_eq_true rfl) ⟨(Nat.le_of_ble_eq_true rfl), (Nat.le_of_ble_eq_true rfl)⟩ dX11_isWindow_6 (fun H locs hM => ?_)
  obtain ⟨v3, e4, h⟩ := ob h
  obtain rfl := so1 h
  exact bz_zretz (pc := 9) X hM hr hlk e4 dX11_isWindow_9 (Nat.le_of_ble_eq_true rfl) (Nat.le_of_ble_eq_true rfl)
theorem ctX11_isWindow (l : Launch) {P : PT} {M : Mm} {a0 : Int32} {r9 : Int32} (h : fX11_isWindow M a0 = some r9) : Ct l yX11_isWindow cX11_isWindow 1 (some .boolean) 1 0 P [.int a0] M (some (.int r9)) M :=
  Ct.mk (by decide +kernel) (Nat.le_of_ble_eq_true rfl) (fun p e s m args below meth c hX => wX11_isWindow hX M a0 h)
set_option maxHeartbeats 4000000 in
set_option maxRecDepth 100000 in
theorem wBX11_isMet_3 {p : Program} {l : Launch} {e : Env} {s : State} {m : MethodId} {args : Array Value} {below : List Frame} {meth : Method} {c : Code} {P : PT} {N : Nat} {K3 : Mm → Nat → Int32 → Int32 → Int32 → Int32 → Int32 → Int32 → Option (Int32)}  {r9 : Int32} (hX : Cy p s m args c meth cX11_isMet 7 RX11 "isMet" (some .boolean) P)  (hK3 : ∀ (M : Mm) (x0 : Nat) (x1 : Int32) (x2 : Int32) (x3 : Int32) (x4 : Int32) (x5 : Int32) (x6 : Int32), K3 M x0 x1 x2 x3 x4 x5 x6 = some r9 → Wq p l e s m args below meth c 2 0 (some (.int r9)) M 7 P 0 3 [(0, .ref (pB P + x0)), (1, .int x1), (2, .int x2), (3, .int x3), (4, .int x4), (5, .int x5), (6, .int x6)] [] M) (M : Mm) (x0 : Nat) (x1 : Int32) (x2 : Int32) (x3 : Int32) (x4 : Int32) (x5 : Int32) (x6 : Int32)  (h : BX11_isMet_3 N K3 M x0 x1 x2 x3 x4 x5 x6 = some r9) : Wq p l e s m args below meth c 2 0 (some (.int r9)) M 7 P 0 3 [(0, .ref (pB P + x0)), (1, .int x1), (2, .int x2), (3, .int x3), (4, .int x4), (5, .int x5), (6, .int x6)] [] M := by
  unfold BX11_isMet_3 at h
  have hX0 := hX
  obtain ⟨X, hr, hlk, hnm⟩ := hX0
  have hx := X.1.1
  have hb := X.1.2.1
  intro H locs ls hM hl
  refine lv_iload (pc := 3) hx hb dX11_isMet_3 (lv_at hl 6 rfl) ?_
  refine lv_aload_n (pc := 5) hx hb dX11_isMet_5 rfl (lv_at hl 0 rfl) ?_
  obtain ⟨q1, e2, h⟩ := ob h
  refine bz_getQ (pc := 6) X hM fl_RX11_9 e2 dX11_isMet_6 ?_
  refine lv_iconst (pc := 9) (v := (1 : Int32)) hx hb dX11_isMet_9 (by decide) ?_
  obtain ⟨v3, e4, h⟩ := ob h
  refine bz_iald (pc := 10) X hM e4 dX11_isMet_10 ?_
  refine lv_icmp_ge (pc := 11) (tgt := 64) hx hb dX11_isMet_11 (by decide) (fun hc => ?_) (fun hc => ?_)
  · have h := if_t hc h
    refine lv_iconst (pc := 64) (v := (0 : Int32)) hx hb dX11_isMet_64 (by decide) ?_
    obtain rfl := so1 h
    exact bz_zret (pc := 65) X hM hr hlk (by decide) dX11_isMet_65 (Nat.le_of_ble_eq_true rfl) (Nat.le_of_ble_eq_true rfl)
  · have h := if_f hc h
    refine lv_aload_n (pc := 14) hx hb dX11_isMet_14 rfl (lv_at hl 0 rfl) ?_
    refine lv_iload (pc := 15) hx hb dX11_isMet_15 (lv_at hl 6 rfl) ?_
    refine lv_iload_n (pc := 17) hx hb dX11_isMet_17 rfl (lv_at hl 2 rfl) ?_
    refine lv_iload_n (pc := 18) hx hb dX11_isMet_18 rfl (lv_at hl 3 rfl) ?_
    obtain ⟨v6, e5, h⟩ := ob h
    obtain ⟨fs7, hb8⟩ := (rX11_isCounted e5)
    refine bz_callV1 (pc := 19) (As := [.int x6, .int x2, .int x3]) (rest := []) X hM hl.1 k_RX11_123 (ctX11_isCounted l e5) rfl hb8 rfl rfl ⟨(Nat.le_of_ble_eq_true rfl), (Nat.le_of_ble_eq_true rfl)⟩ (Nat.le_of_ble_eq_true rfl) ⟨(Nat.le_of_ble_eq_true rfl), (Nat.le_of_ble_eq_true rfl)⟩ dX11_isMet_19 (fun H locs hM => ?_)
    refine lv_if_eq (pc := 22) (tgt := 58) hx hb dX11_isMet_22 (by decide) (fun hc => ?_) (fun hc => ?_)
    · have h := if_t hc h
      refine lv_iinc (pc := 58) (v := (x6 + (1 : Int32))) (lv' := [(6, .int (x6 + (1 : Int32))), (0, .ref (pB P + x0)), (1, .int x1), (2, .int x2), (3, .int x3), (4, .int x4), (5, .int x5)]) hx hb dX11_isMet_58 hl (k := 6) rfl rfl (by decide) rfl (fun ls hl => ?_)
      refine lv_goto (pc := 61) (tgt := 3) hx hb dX11_isMet_61 (by decide) ?_
      exact hK3 _ _ _ _ _ _ _ _ h H locs ls hM (lv_sub hl [1, 2, 3, 4, 5, 6, 0] rfl)
    · have h := if_f hc h
      refine lv_aload_n (pc := 25) hx hb dX11_isMet_25 rfl (lv_at hl 0 rfl) ?_
      obtain ⟨q9, e10, h⟩ := ob h
      refine bz_getQ (pc := 26) X hM fl_RX11_19 e10 dX11_isMet_26 ?_
      refine lv_iload_n (pc := 29) hx hb dX11_isMet_29 rfl (lv_at hl 1 rfl) ?_
      obtain ⟨v11, e12, h⟩ := ob h
      refine bz_iald (pc := 30) X hM e12 dX11_isMet_30 ?_
      refine lv_aload_n (pc := 31) hx hb dX11_isMet_31 rfl (lv_at hl 0 rfl) ?_
      obtain ⟨q13, e14, h⟩ := ob h
      refine bz_getQ (pc := 32) X hM fl_RX11_19 e14 dX11_isMet_32 ?_
      refine lv_iload (pc := 35) hx hb dX11_isMet_35 (lv_at hl 6 rfl) ?_
      obtain ⟨v15, e16, h⟩ := ob h
      refine bz_iald (pc := 37) X hM e16 dX11_isMet_37 ?_
      refine lv_isub (pc := 38) hx hb dX11_isMet_38 ?_
      refine lv_iload (pc := 39) hx hb dX11_isMet_39 (lv_at hl 5 rfl) ?_
      refine lv_isub (pc := 41) hx hb dX11_isMet_41 ?_
      refine lv_i2l (pc := 42) (v := ((((v11 - v15) - x5)).toInt64)) hx hb dX11_isMet_42 rfl ?_
      refine lv_iload (pc := 43) hx hb dX11_isMet_43 (lv_at hl 4 rfl) ?_
      refine lv_ineg (pc := 45) hx hb dX11_isMet_45 ?_
      refine lv_i2l (pc := 46) (v := (((-x4)).toInt64)) hx hb dX11_isMet_46 rfl ?_
      refine lv_iload (pc := 47) hx hb dX11_isMet_47 (lv_at hl 4 rfl) ?_
      refine lv_i2l (pc := 49) (v := ((x4).toInt64)) hx hb dX11_isMet_49 rfl ?_
      obtain ⟨v18, e17, h⟩ := ob h
      refine bz_callS1 (pc := 50) (As := [.long ((((v11 - v15) - x5)).toInt64), .long (((-x4)).toInt64), .long ((x4).toInt64)]) (rest := []) X hM hl.1 k_RX11_57 (ctX11_in l e17) rfl rfl ⟨(Nat.le_of_ble_eq_true rfl), (Nat.le_of_ble_eq_true rfl)⟩ (Nat.le_of_ble_eq_true rfl) ⟨(Nat.le_of_ble_eq_true rfl), (Nat.le_of_ble_eq_true rfl)⟩ dX11_isMet_50 (fun H locs hM => ?_)
      refine lv_if_eq (pc := 53) (tgt := 58) hx hb dX11_isMet_53 (by decide) (fun hc => ?_) (fun hc => ?_)
      · have h := if_t hc h
        refine lv_iinc (pc := 58) (v := (x6 + (1 : Int32))) (lv' := [(6, .int (x6 + (1 : Int32))), (0, .ref (pB P + x0)), (1, .int x1), (2, .int x2), (3, .int x3), (4, .int x4), (5, .int x5)]) hx hb dX11_isMet_58 hl (k := 6) rfl rfl (by decide) rfl (fun ls hl => ?_)
        refine lv_goto (pc := 61) (tgt := 3) hx hb dX11_isMet_61 (by decide) ?_
        exact hK3 _ _ _ _ _ _ _ _ h H locs ls hM (lv_sub hl [1, 2, 3, 4, 5, 6, 0] rfl)
      · have h := if_f hc h
        refine lv_iconst (pc := 56) (v := (1 : Int32)) hx hb dX11_isMet_56 (by decide) ?_
        obtain rfl := so1 h
        exact bz_zret (pc := 57) X hM hr hlk (by decide) dX11_isMet_57 (Nat.le_of_ble_eq_true rfl) (Nat.le_of_ble_eq_true rfl)
set_option maxHeartbeats 4000000 in
set_option maxRecDepth 100000 in
theorem wLX11_isMet_3 {p : Program} {l : Launch} {e : Env} {s : State} {m : MethodId} {args : Array Value} {below : List Frame} {meth : Method} {c : Code} {P : PT} {N : Nat}  {r9 : Int32} (hX : Cy p s m args c meth cX11_isMet 7 RX11 "isMet" (some .boolean) P)   : ∀ (n : Nat) (M : Mm) (x0 : Nat) (x1 : Int32) (x2 : Int32) (x3 : Int32) (x4 : Int32) (x5 : Int32) (x6 : Int32) , LX11_isMet_3 N n M x0 x1 x2 x3 x4 x5 x6 = some r9 → Wq p l e s m args below meth c 2 0 (some (.int r9)) M 7 P 0 3 [(0, .ref (pB P + x0)), (1, .int x1), (2, .int x2), (3, .int x3), (4, .int x4), (5, .int x5), (6, .int x6)] [] M := by
  intro n
  induction n with
  | zero => intro M x0 x1 x2 x3 x4 x5 x6 h; cases h
  | succ n ih => intro M x0 x1 x2 x3 x4 x5 x6 h; exact wBX11_isMet_3 hX ih M x0 x1 x2 x3 x4 x5 x6 h
set_option maxHeartbeats 4000000 in
set_option maxRecDepth 100000 in
theorem wX11_isMet {p : Program} {l : Launch} {e : Env} {s : State} {m : MethodId} {args : Array Value} {below : List Frame} {meth : Method} {c : Code} {P : PT} {N : Nat}  {r9 : Int32} (hX : Cy p s m args c meth cX11_isMet 7 RX11 "isMet" (some .boolean) P)  (M : Mm) (a0 : Nat) (a1 : Int32) (a2 : Int32) (a3 : Int32) (a4 : Int32) (a5 : Int32) (h : fX11_isMet N M a0 a1 a2 a3 a4 a5 = some r9) : Wq p l e s m args below meth c 2 0 (some (.int r9)) M 7 P 0 0 [(0, .ref (pB P + a0)), (1, .int a1), (2, .int a2), (3, .int a3), (4, .int a4), (5, .int a5)] [] M := by
  unfold fX11_isMet at h
  obtain ⟨_, _, h⟩ := ob h
  have hX0 := hX
  obtain ⟨X, hr, hlk, hnm⟩ := hX0
  have hx := X.1.1
  have hb := X.1.2.1
  intro H locs ls hM hl
  refine lv_iconst (pc := 0) (v := (0 : Int32)) hx hb dX11_isMet_0 (by decide) ?_
  refine lv_istore (pc := 1) (lv' := [(6, .int (0 : Int32)), (0, .ref (pB P + a0)), (1, .int a1), (2, .int a2), (3, .int a3), (4, .int a4), (5, .int a5)]) hx hb dX11_isMet_1 hl (by decide) rfl (fun ls hl => ?_)
  exact wLX11_isMet_3 hX _ _ _ _ _ _ _ _ _ h H locs ls hM (lv_sub hl [1, 2, 3, 4, 5, 6, 0] rfl)
theorem rX11_isMet {N : Nat} {M : Mm} {a0 : Nat} {a1 : Int32} {a2 : Int32} {a3 : Int32} {a4 : Int32} {a5 : Int32} {r9 : Int32} (h : fX11_isMet N M a0 a1 a2 a3 a4 a5 = some r9) : ∃ fs, M[a0]? = some (.inr (11, fs)) := by
  unfold fX11_isMet at h
  obtain ⟨_, e1, _⟩ := ob h
  exact gC_spec e1
theorem ctX11_isMet (l : Launch) {P : PT} {N : Nat} {M : Mm} {a0 : Nat} {a1 : Int32} {a2 : Int32} {a3 : Int32} {a4 : Int32} {a5 : Int32} {r9 : Int32} (h : fX11_isMet N M a0 a1 a2 a3 a4 a5 = some r9) : Ct l yX11_isMet cX11_isMet 7 (some .boolean) 2 0 P [.ref (pB P + a0), .int a1, .int a2, .int a3, .int a4, .int a5] M (some (.int r9)) M :=
  Ct.mk (by decide +kernel) (Nat.le_of_ble_eq_true rfl) (fun p e s m args below meth c hX => wX11_isMet hX M a0 a1 a2 a3 a4 a5 h)
set_option maxHeartbeats 4000000 in
set_option maxRecDepth 100000 in
theorem wBX11_met_6 {p : Program} {l : Launch} {e : Env} {s : State} {m : MethodId} {args : Array Value} {below : List Frame} {meth : Method} {c : Code} {P : PT} {N : Nat} {K6 : Mm → Nat → Int32 → Int32 → Int32 → Int32 → Int32 → Int32 → Option (Int32)}  {r9 : Int32} (hX : Cy p s m args c meth cX11_met 7 RX11 "met" (some .int) P)  (hK6 : ∀ (M : Mm) (x0 : Nat) (x1 : Int32) (x2 : Int32) (x3 : Int32) (x4 : Int32) (x5 : Int32) (x6 : Int32), K6 M x0 x1 x2 x3 x4 x5 x6 = some r9 → Wq p l e s m args below meth c 3 0 (some (.int r9)) M 7 P 0 6 [(0, .ref (pB P + x0)), (1, .int x1), (2, .int x2), (3, .int x3), (4, .int x4), (5, .int x5), (6, .int x6)] [] M) (M : Mm) (x0 : Nat) (x1 : Int32) (x2 : Int32) (x3 : Int32) (x4 : Int32) (x5 : Int32) (x6 : Int32)  (h : BX11_met_6 N K6 M x0 x1 x2 x3 x4 x5 x6 = some r9) : Wq p l e s m args below meth c 3 0 (some (.int r9)) M 7 P 0 6 [(0, .ref (pB P + x0)), (1, .int x1), (2, .int x2), (3, .int x3), (4, .int x4), (5, .int x5), (6, .int x6)] [] M := by
  unfold BX11_met_6 at h
  have hX0 := hX
  obtain ⟨X, hr, hlk, hnm⟩ := hX0
  have hx := X.1.1
  have hb := X.1.2.1
  intro H locs ls hM hl
  refine lv_iload (pc := 6) hx hb dX11_met_6 (lv_at hl 6 rfl) ?_
  refine lv_aload_n (pc := 8) hx hb dX11_met_8 rfl (lv_at hl 0 rfl) ?_
  obtain ⟨q1, e2, h⟩ := ob h
  refine bz_getQ (pc := 9) X hM fl_RX11_9 e2 dX11_met_9 ?_
  refine lv_iconst (pc := 12) (v := (1 : Int32)) hx hb dX11_met_12 (by decide) ?_
  obtain ⟨v3, e4, h⟩ := ob h
  refine bz_iald (pc := 13) X hM e4 dX11_met_13 ?_
  refine lv_icmp_ge (pc := 14) (tgt := 64) hx hb dX11_met_14 (by decide) (fun hc => ?_) (fun hc => ?_)
  · have h := if_t hc h
    refine lv_iload (pc := 64) hx hb dX11_met_64 (lv_at hl 5 rfl) ?_
    obtain rfl := so1 h
    exact bz_iret (pc := 66) X hM hr hlk dX11_met_66 (Nat.le_of_ble_eq_true rfl) (Nat.le_of_ble_eq_true rfl)
  · have h := if_f hc h
    refine lv_iload (pc := 17) hx hb dX11_met_17 (lv_at hl 5 rfl) ?_
    refine lv_aload_n (pc := 19) hx hb dX11_met_19 rfl (lv_at hl 0 rfl) ?_
    refine lv_iload (pc := 20) hx hb dX11_met_20 (lv_at hl 6 rfl) ?_
    refine lv_iload_n (pc := 22) hx hb dX11_met_22 rfl (lv_at hl 1 rfl) ?_
    refine lv_bipush (pc := 23) (v := (10 : Int32)) hx hb dX11_met_23 (by decide) ?_
    refine lv_idiv (pc := 25) hx hb dX11_met_25 (by decide) ?_
    refine lv_iload_n (pc := 26) hx hb dX11_met_26 rfl (lv_at hl 2 rfl) ?_
    obtain ⟨v6, e5, h⟩ := ob h
    obtain ⟨fs7, hb8⟩ := (rX11_isCounted e5)
    refine bz_callV1 (pc := 27) (As := [.int x6, .int (x1 / (10 : Int32)), .int x2]) (rest := [.int x5]) X hM hl.1 k_RX11_123 (ctX11_isCounted l e5) rfl hb8 rfl rfl ⟨(Nat.le_of_ble_eq_true rfl), (Nat.le_of_ble_eq_true rfl)⟩ (Nat.le_of_ble_eq_true rfl) ⟨(Nat.le_of_ble_eq_true rfl), (Nat.le_of_ble_eq_true rfl)⟩ dX11_met_27 (fun H locs hM => ?_)
    refine lv_if_eq (pc := 30) (tgt := 54) hx hb dX11_met_30 (by decide) (fun hc => ?_) (fun hc => ?_)
    · have h := if_t hc h
      refine lv_iconst (pc := 54) (v := (0 : Int32)) hx hb dX11_met_54 (by decide) ?_
      refine lv_iadd (pc := 55) hx hb dX11_met_55 ?_
      refine lv_istore (pc := 56) (lv' := [(5, .int (x5 + (0 : Int32))), (0, .ref (pB P + x0)), (1, .int x1), (2, .int x2), (3, .int x3), (4, .int x4), (6, .int x6)]) hx hb dX11_met_56 hl (by decide) rfl (fun ls hl => ?_)
      refine lv_iinc (pc := 58) (v := (x6 + (1 : Int32))) (lv' := [(6, .int (x6 + (1 : Int32))), (5, .int (x5 + (0 : Int32))), (0, .ref (pB P + x0)), (1, .int x1), (2, .int x2), (3, .int x3), (4, .int x4)]) hx hb dX11_met_58 hl (k := 6) rfl rfl (by decide) rfl (fun ls hl => ?_)
      refine lv_goto (pc := 61) (tgt := 6) hx hb dX11_met_61 (by decide) ?_
      exact hK6 _ _ _ _ _ _ _ _ h H locs ls hM (lv_sub hl [2, 3, 4, 5, 6, 1, 0] rfl)
    · have h := if_f hc h
      refine lv_aload_n (pc := 33) hx hb dX11_met_33 rfl (lv_at hl 0 rfl) ?_
      refine lv_iload (pc := 34) hx hb dX11_met_34 (lv_at hl 6 rfl) ?_
      refine lv_iload_n (pc := 36) hx hb dX11_met_36 rfl (lv_at hl 1 rfl) ?_
      refine lv_bipush (pc := 37) (v := (10 : Int32)) hx hb dX11_met_37 (by decide) ?_
      refine bz_irem (pc := 39) hx hb dX11_met_39 (by decide) ?_
      refine lv_iload_n (pc := 40) hx hb dX11_met_40 rfl (lv_at hl 2 rfl) ?_
      refine lv_iload_n (pc := 41) hx hb dX11_met_41 rfl (lv_at hl 3 rfl) ?_
      refine lv_iload (pc := 42) hx hb dX11_met_42 (lv_at hl 4 rfl) ?_
      obtain ⟨v10, e9, h⟩ := ob h
      obtain ⟨fs11, hb12⟩ := (rX11_isMet e9)
      refine bz_callV1 (pc := 44) (As := [.int x6, .int (rmI x1 ((10 : Int32))), .int x2, .int x3, .int x4]) (rest := [.int x5]) X hM hl.1 k_RX11_127 (ctX11_isMet l e9) rfl hb12 rfl rfl ⟨(Nat.le_of_ble_eq_true rfl), (Nat.le_of_ble_eq_true rfl)⟩ (Nat.le_of_ble_eq_true rfl) ⟨(Nat.le_of_ble_eq_true rfl), (Nat.le_of_ble_eq_true rfl)⟩ dX11_met_44 (fun H locs hM => ?_)
      refine lv_if_eq (pc := 47) (tgt := 54) hx hb dX11_met_47 (by decide) (fun hc => ?_) (fun hc => ?_)
      · have h := if_t hc h
        refine lv_iconst (pc := 54) (v := (0 : Int32)) hx hb dX11_met_54 (by decide) ?_
        refine lv_iadd (pc := 55) hx hb dX11_met_55 ?_
        refine lv_istore (pc := 56) (lv' := [(5, .int (x5 + (0 : Int32))), (0, .ref (pB P + x0)), (1, .int x1), (2, .int x2), (3, .int x3), (4, .int x4), (6, .int x6)]) hx hb dX11_met_56 hl (by decide) rfl (fun ls hl => ?_)
        refine lv_iinc (pc := 58) (v := (x6 + (1 : Int32))) (lv' := [(6, .int (x6 + (1 : Int32))), (5, .int (x5 + (0 : Int32))), (0, .ref (pB P + x0)), (1, .int x1), (2, .int x2), (3, .int x3), (4, .int x4)]) hx hb dX11_met_58 hl (k := 6) rfl rfl (by decide) rfl (fun ls hl => ?_)
        refine lv_goto (pc := 61) (tgt := 6) hx hb dX11_met_61 (by decide) ?_
        exact hK6 _ _ _ _ _ _ _ _ h H locs ls hM (lv_sub hl [2, 3, 4, 5, 6, 1, 0] rfl)
      · have h := if_f hc h
        refine lv_iconst (pc := 50) (v := (1 : Int32)) hx hb dX11_met_50 (by decide) ?_
        refine lv_goto (pc := 51) (tgt := 55) hx hb dX11_met_51 (by decide) ?_
        refine lv_iadd (pc := 55) hx hb dX11_met_55 ?_
        refine lv_istore (pc := 56) (lv' := [(5, .int (x5 + (1 : Int32))), (0, .ref (pB P + x0)), (1, .int x1), (2, .int x2), (3, .int x3), (4, .int x4), (6, .int x6)]) hx hb dX11_met_56 hl (by decide) rfl (fun ls hl => ?_)
        refine lv_iinc (pc := 58) (v := (x6 + (1 : Int32))) (lv' := [(6, .int (x6 + (1 : Int32))), (5, .int (x5 + (1 : Int32))), (0, .ref (pB P + x0)), (1, .int x1), (2, .int x2), (3, .int x3), (4, .int x4)]) hx hb dX11_met_58 hl (k := 6) rfl rfl (by decide) rfl (fun ls hl => ?_)
        refine lv_goto (pc := 61) (tgt := 6) hx hb dX11_met_61 (by decide) ?_
        exact hK6 _ _ _ _ _ _ _ _ h H locs ls hM (lv_sub hl [2, 3, 4, 5, 6, 1, 0] rfl)
set_option maxHeartbeats 4000000 in
set_option maxRecDepth 100000 in
theorem wLX11_met_6 {p : Program} {l : Launch} {e : Env} {s : State} {m : MethodId} {args : Array Value} {below : List Frame} {meth : Method} {c : Code} {P : PT} {N : Nat}  {r9 : Int32} (hX : Cy p s m args c meth cX11_met 7 RX11 "met" (some .int) P)   : ∀ (n : Nat) (M : Mm) (x0 : Nat) (x1 : Int32) (x2 : Int32) (x3 : Int32) (x4 : Int32) (x5 : Int32) (x6 : Int32) , LX11_met_6 N n M x0 x1 x2 x3 x4 x5 x6 = some r9 → Wq p l e s m args below meth c 3 0 (some (.int r9)) M 7 P 0 6 [(0, .ref (pB P + x0)), (1, .int x1), (2, .int x2), (3, .int x3), (4, .int x4), (5, .int x5), (6, .int x6)] [] M := by
  intro n
  induction n with
  | zero => intro M x0 x1 x2 x3 x4 x5 x6 h; cases h
  | succ n ih => intro M x0 x1 x2 x3 x4 x5 x6 h; exact wBX11_met_6 hX ih M x0 x1 x2 x3 x4 x5 x6 h
set_option maxHeartbeats 4000000 in
set_option maxRecDepth 100000 in
theorem wX11_met {p : Program} {l : Launch} {e : Env} {s : State} {m : MethodId} {args : Array Value} {below : List Frame} {meth : Method} {c : Code} {P : PT} {N : Nat}  {r9 : Int32} (hX : Cy p s m args c meth cX11_met 7 RX11 "met" (some .int) P)  (M : Mm) (a0 : Nat) (a1 : Int32) (a2 : Int32) (a3 : Int32) (a4 : Int32) (h : fX11_met N M a0 a1 a2 a3 a4 = some r9) : Wq p l e s m args below meth c 3 0 (some (.int r9)) M 7 P 0 0 [(0, .ref (pB P + a0)), (1, .int a1), (2, .int a2), (3, .int a3), (4, .int a4)] [] M := by
  unfold fX11_met at h
  obtain ⟨_, _, h⟩ := ob h
  have hX0 := hX
  obtain ⟨X, hr, hlk, hnm⟩ := hX0
  have hx := X.1.1
  have hb := X.1.2.1
  intro H locs ls hM hl
  refine lv_iconst (pc := 0) (v := (0 : Int32)) hx hb dX11_met_0 (by decide) ?_
  refine lv_istore (pc := 1) (lv' := [(5, .int (0 : Int32)), (0, .ref (pB P + a0)), (1, .int a1), (2, .int a2), (3, .int a3), (4, .int a4)]) hx hb dX11_met_1 hl (by decide) rfl (fun ls hl => ?_)
  refine lv_iconst (pc := 3) (v := (0 : Int32)) hx hb dX11_met_3 (by decide) ?_
  refine lv_istore (pc := 4) (lv' := [(6, .int (0 : Int32)), (5, .int (0 : Int32)), (0, .ref (pB P + a0)), (1, .int a1), (2, .int a2), (3, .int a3), (4, .int a4)]) hx hb dX11_met_4 hl (by decide) rfl (fun ls hl => ?_)
  exact wLX11_met_6 hX _ _ _ _ _ _ _ _ _ h H locs ls hM (lv_sub hl [2, 3, 4, 5, 6, 1, 0] rfl)
theorem rX11_met {N : Nat} {M : Mm} {a0 : Nat} {a1 : Int32} {a2 : Int32} {a3 : Int32} {a4 : Int32} {r9 : Int32} (h : fX11_met N M a0 a1 a2 a3 a4 = some r9) : ∃ fs, M[a0]? = some (.inr (11, fs)) := by
  unfold fX11_met at h
  obtain ⟨_, e1, _⟩ := ob h
  exact gC_spec e1
theorem ctX11_met (l : Launch) {P : PT} {N : Nat} {M : Mm} {a0 : Nat} {a1 : Int32} {a2 : Int32} {a3 : Int32} {a4 : Int32} {r9 : Int32} (h : fX11_met N M a0 a1 a2 a3 a4 = some r9) : Ct l yX11_met cX11_met 7 (some .int) 3 0 P [.ref (pB P + a0), .int a1, .int a2, .int a3, .int a4] M (some (.int r9)) M :=
  Ct.mk (by decide +kernel) (Nat.le_of_ble_eq_true rfl) (fun p e s m args below meth c hX => wX11_met hX M a0 a1 a2 a3 a4 h)
set_option maxHeartbeats 4000000 in
set_option maxRecDepth 100000 in
theorem wjX11_meets_37 {p : Program} {l : Launch} {e : Env} {s : State} {m : MethodId} {args : Array Value} {below : List Frame} {meth : Method} {c : Code} {P : PT} {N : Nat}  {r9 : Int32} {M9 : Mm} (hX : Cy p s m args c meth cX11_meets 5 RX11 "meets" (some .int) P)   (M : Mm) (x0 : Nat)  (h : jX11_meets_37 N M x0 = some (r9, M9)) : Wq p l e s m args below meth c 4 0 (some (.int r9)) M9 5 P 0 37 [(0, .ref (pB P + x0))] [] M := by
  unfold jX11_meets_37 at h
  have hX0 := hX
  obtain ⟨X, hr, hlk, hnm⟩ := hX0
  have hx := X.1.1
  have hb := X.1.2.1
  intro H locs ls hM hl
  refine lv_aload_n (pc := 37) hx hb dX11_meets_37 rfl (lv_at hl 0 rfl) ?_
  refine lv_iconst (pc := 38) (v := (1 : Int32)) hx hb dX11_meets_38 (by decide) ?_
  obtain ⟨v2, M3, e1, h⟩ := ob2 h
  obtain ⟨fs4, hb5⟩ := (rX11_error e1)
  refine bz_callV1 (pc := 39) (As := [.int (1 : Int32)]) (rest := []) X hM hl.1 k_RX11_73 (ctX11_error l e1) rfl hb5 rfl rfl ⟨(Nat.le_of_ble_eq_true rfl), (Nat.le_of_ble_eq_true rfl)⟩ (Nat.le_of_ble_eq_true rfl) ⟨(Nat.le_of_ble_eq_true rfl), (Nat.le_of_ble_eq_true rfl)⟩ dX11_meets_39 (fun H locs hM => ?_)
  obtain ⟨rfl, rfl⟩ := so2 h
  exact bz_iret (pc := 42) X hM hr hlk dX11_meets_42 (Nat.le_of_ble_eq_true rfl) (Nat.le_of_ble_eq_true rfl)
set_option maxHeartbeats 4000000 in
set_option maxRecDepth 100000 in
theorem wX11_meets {p : Program} {l : Launch} {e : Env} {s : State} {m : MethodId} {args : Array Value} {below : List Frame} {meth : Method} {c : Code} {P : PT} {N : Nat}  {r9 : Int32} {M9 : Mm} (hX : Cy p s m args c meth cX11_meets 5 RX11 "meets" (some .int) P)  (M : Mm) (a0 : Nat) (a1 : Int32) (a2 : Int32) (a3 : Int32) (a4 : Int32) (h : fX11_meets N M a0 a1 a2 a3 a4 = some (r9, M9)) : Wq p l e s m args below meth c 4 0 (some (.int r9)) M9 5 P 0 0 [(0, .ref (pB P + a0)), (1, .int a1), (2, .int a2), (3, .int a3), (4, .int a4)] [] M := by
  unfold fX11_meets at h
  obtain ⟨_, _, h⟩ := ob h
  have hX0 := hX
  obtain ⟨X, hr, hlk, hnm⟩ := hX0
  have hx := X.1.1
  have hb := X.1.2.1
  intro H locs ls hM hl
  refine lv_aload_n (pc := 0) hx hb dX11_meets_0 rfl (lv_at hl 0 rfl) ?_
  refine lv_iload_n (pc := 1) hx hb dX11_meets_1 rfl (lv_at hl 1 rfl) ?_
  obtain ⟨v2, e1, h⟩ := ob h
  obtain ⟨fs3, hb4⟩ := (rX11_isPair e1)
  refine bz_callV1 (pc := 2) (As := [.int a1]) (rest := []) X hM hl.1 k_RX11_131 (ctX11_isPair l e1) rfl hb4 rfl rfl ⟨(Nat.le_of_ble_eq_true rfl), (Nat.le_of_ble_eq_true rfl)⟩ (Nat.le_of_ble_eq_true rfl) ⟨(Nat.le_of_ble_eq_true rfl), (Nat.le_of_ble_eq_true rfl)⟩ dX11_meets_2 (fun H locs hM => ?_)
  refine lv_if_eq (pc := 5) (tgt := 37) hx hb dX11_meets_5 (by decide) (fun hc => ?_) (fun hc => ?_)
  · have h := if_t hc h
    exact wjX11_meets_37 hX _ _ h H locs ls hM (lv_sub hl [0] rfl)
  · have h := if_f hc h
    refine lv_iload_n (pc := 8) hx hb dX11_meets_8 rfl (lv_at hl 2 rfl) ?_
    obtain ⟨v6, e5, h⟩ := ob h
    refine bz_callS1 (pc := 9) (As := [.int a2]) (rest := []) X hM hl.1 k_RX11_117 (ctX11_isLine l e5) rfl rfl ⟨(Nat.le_of_ble_eq_true rfl), (Nat.le_of_ble_eq_true rfl)⟩ (Nat.le_of_ble_eq_true rfl) ⟨(Nat.le_of_ble_eq_true rfl), (Nat.le_of_ble_eq_true rfl)⟩ dX11_meets_9 (fun H locs hM => ?_)
    refine lv_if_eq (pc := 12) (tgt := 37) hx hb dX11_meets_12 (by decide) (fun hc => ?_) (fun hc => ?_)
    · have h := if_t hc h
      exact wjX11_meets_37 hX _ _ h H locs ls hM (lv_sub hl [0] rfl)
    · have h := if_f hc h
      refine lv_iload_n (pc := 15) hx hb dX11_meets_15 rfl (lv_at hl 3 rfl) ?_
      obtain ⟨v8, e7, h⟩ := ob h
      refine bz_callS1 (pc := 16) (As := [.int a3]) (rest := []) X hM hl.1 k_RX11_134 (ctX11_isWindow l e7) rfl rfl ⟨(Nat.le_of_ble_eq_true rfl), (Nat.le_of_ble_eq_true rfl)⟩ (Nat.le_of_ble_eq_true rfl) ⟨(Nat.le_of_ble_eq_true rfl), (Nat.le_of_ble_eq_true rfl)⟩ dX11_meets_16 (fun H locs hM => ?_)
      refine lv_if_eq (pc := 19) (tgt := 37) hx hb dX11_meets_19 (by decide) (fun hc => ?_) (fun hc => ?_)
      · have h := if_t hc h
        exact wjX11_meets_37 hX _ _ h H locs ls hM (lv_sub hl [0] rfl)
      · have h := if_f hc h
        refine lv_iload (pc := 22) hx hb dX11_meets_22 (lv_at hl 4 rfl) ?_
        refine lv_i2l (pc := 24) (v := ((a4).toInt64)) hx hb dX11_meets_24 rfl ?_
        refine lv_ldc2 (pc := 25) (v := (-9999 : Int64)) hx hb X.1.2.2.2.1 (X.1.2.2.2.2 _ g_1376) dX11_meets_25 ?_
        refine lv_ldc2 (pc := 28) (v := (9999 : Int64)) hx hb X.1.2.2.2.1 (X.1.2.2.2.2 _ g_1297) dX11_meets_28 ?_
        obtain ⟨v10, e9, h⟩ := ob h
        refine bz_callS1 (pc := 31) (As := [.long ((a4).toInt64), .long (-9999 : Int64), .long (9999 : Int64)]) (rest := []) X hM hl.1 k_RX11_57 (ctX11_in l e9) rfl rfl ⟨(Nat.le_of_ble_eq_true rfl), (Nat.le_of_ble_eq_true rfl)⟩ (Nat.le_of_ble_eq_true rfl) ⟨(Nat.le_of_ble_eq_true rfl), (Nat.le_of_ble_eq_true rfl)⟩ dX11_meets_31 (fun H locs hM => ?_)
        refine lv_if_ne (pc := 34) (tgt := 43) hx hb dX11_meets_34 (by decide) (fun hc => ?_) (fun hc => ?_)
        · have h := if_f hc h
          refine lv_aload_n (pc := 43) hx hb dX11_meets_43 rfl (lv_at hl 0 rfl) ?_
          obtain ⟨M12, e11, h⟩ := ob h
          obtain ⟨fs13, hb14⟩ := (rX11_readAll e11)
          refine bz_callV0 (pc := 44) (As := []) (rest := []) X hM hl.1 k_RX11_120 (ctX11_readAll l e11) rfl hb14 rfl rfl ⟨(Nat.le_of_ble_eq_true rfl), (Nat.le_of_ble_eq_true rfl)⟩ (Nat.le_of_ble_eq_true rfl) ⟨(Nat.le_of_ble_eq_true rfl), (Nat.le_of_ble_eq_true rfl)⟩ dX11_meets_44 (fun H locs hM => ?_)
          refine lv_aload_n (pc := 47) hx hb dX11_meets_47 rfl (lv_at hl 0 rfl) ?_
          refine lv_iload_n (pc := 48) hx hb dX11_meets_48 rfl (lv_at hl 1 rfl) ?_
          refine lv_iload_n (pc := 49) hx hb dX11_meets_49 rfl (lv_at hl 2 rfl) ?_
          refine lv_iload_n (pc := 50) hx hb dX11_meets_50 rfl (lv_at hl 3 rfl) ?_
          refine lv_iload (pc := 51) hx hb dX11_meets_51 (lv_at hl 4 rfl) ?_
          obtain ⟨v16, e15, h⟩ := ob h
          obtain ⟨fs17, hb18⟩ := (rX11_met e15)
          refine bz_callV1 (pc := 53) (As := [.int a1, .int a2, .int a3, .int a4]) (rest := []) X hM hl.1 k_RX11_139 (ctX11_met l e15) rfl hb18 rfl rfl ⟨(Nat.le_of_ble_eq_true rfl), (Nat.le_of_ble_eq_true rfl)⟩ (Nat.le_of_ble_eq_true rfl) ⟨(Nat.le_of_ble_eq_true rfl), (Nat.le_of_ble_eq_true rfl)⟩ dX11_meets_53 (fun H locs hM => ?_)
          obtain ⟨rfl, rfl⟩ := so2 h
          exact bz_iret (pc := 56) X hM hr hlk dX11_meets_56 (Nat.le_of_ble_eq_true rfl) (Nat.le_of_ble_eq_true rfl)
        · have h := if_t hc h
          exact wjX11_meets_37 hX _ _ h H locs ls hM (lv_sub hl [0] rfl)
theorem rX11_meets {N : Nat} {M : Mm} {a0 : Nat} {a1 : Int32} {a2 : Int32} {a3 : Int32} {a4 : Int32} {r9 : Int32 × Mm} (h : fX11_meets N M a0 a1 a2 a3 a4 = some r9) : ∃ fs, M[a0]? = some (.inr (11, fs)) := by
  unfold fX11_meets at h
  obtain ⟨_, e1, _⟩ := ob h
  exact gC_spec e1
theorem ctX11_meets (l : Launch) {P : PT} {N : Nat} {M : Mm} {a0 : Nat} {a1 : Int32} {a2 : Int32} {a3 : Int32} {a4 : Int32} {r9 : Int32} {M9 : Mm} (h : fX11_meets N M a0 a1 a2 a3 a4 = some (r9, M9)) : Ct l yX11_meets cX11_meets 5 (some .int) 4 0 P [.ref (pB P + a0), .int a1, .int a2, .int a3, .int a4] M (some (.int r9)) M9 :=
  Ct.mk (by decide +kernel) (Nat.le_of_ble_eq_true rfl) (fun p e s m args below meth c hX => wX11_meets hX M a0 a1 a2 a3 a4 h)
set_option maxHeartbeats 4000000 in
set_option maxRecDepth 100000 in
theorem wX10_isKind {p : Program} {l : Launch} {e : Env} {s : State} {m : MethodId} {args : Array Value} {below : List Frame} {meth : Method} {c : Code} {P : PT}  {r9 : Int32} (hX : Cy p s m args c meth cX10_isKind 1 RX10 "isKind" (some .boolean) P)  (M : Mm) (a0 : Int32) (h : fX10_isKind M a0 = some r9) : Wq p l e s m args below meth c 1 0 (some (.int r9)) M 1 P 0 0 [(0, .int a0)] [] M := by
  unfold fX10_isKind at h
  have hX0 := hX
  obtain ⟨X, hr, hlk, hnm⟩ := hX0
  have hx := X.1.1
  have hb := X.1.2.1
  intro H locs ls hM hl
  refine lv_iload_n (pc := 0) hx hb dX10_isKind_0 rfl (lv_at hl 0 rfl) ?_
  refine lv_iconst (pc := 1) (v := (0 : Int32)) hx hb dX10_isKind_1 (by decide) ?_
  refine lv_bipush (pc := 2) (v := (7 : Int32)) hx hb dX10_isKind_2 (by decide) ?_
  obtain ⟨v2, e1, h⟩ := ob h
  refine bz_callS1 (pc := 4) (As := [.int a0, .int (0 : Int32), .int (7 : Int32)]) (rest := []) X hM hl.1 k_RX10_74 (ctX10_within l e1) rfl rfl ⟨(Nat.le_of_ble_eq_true rfl), (Nat.le_of_ble_eq_true rfl)⟩ (Nat.le_of_ble_eq_true rfl) ⟨(Nat.le_of_ble_eq_true rfl), (Nat.le_of_ble_eq_true rfl)⟩ dX10_isKind_4 (fun H locs hM => ?_)
  obtain ⟨v3, e4, h⟩ := ob h
  obtain rfl := so1 h
  exact bz_zretz (pc := 7) X hM hr hlk e4 dX10_isKind_7 (Nat.le_of_ble_eq_true rfl) (Nat.le_of_ble_eq_true rfl)
theorem ctX10_isKind (l : Launch) {P : PT} {M : Mm} {a0 : Int32} {r9 : Int32} (h : fX10_isKind M a0 = some r9) : Ct l yX10_isKind cX10_isKind 1 (some .boolean) 1 0 P [.int a0] M (some (.int r9)) M :=
  Ct.mk (by decide +kernel) (Nat.le_of_ble_eq_true rfl) (fun p e s m args below meth c hX => wX10_isKind hX M a0 h)
set_option maxHeartbeats 4000000 in
set_option maxRecDepth 100000 in
theorem wX6_countings {p : Program} {l : Launch} {e : Env} {s : State} {m : MethodId} {args : Array Value} {below : List Frame} {meth : Method} {c : Code} {P : PT}  {r9 : Int32} (hX : Cy p s m args c meth cX6_countings 1 RX6 "countings" (some .int) P)  (M : Mm) (a0 : Nat) (h : fX6_countings M a0 = some r9) : Wq p l e s m args below meth c 0 0 (some (.int r9)) M 1 P 0 0 [(0, .ref (pB P + a0))] [] M := by
  unfold fX6_countings at h
  obtain ⟨_, _, h⟩ := ob h
  have hX0 := hX
  obtain ⟨X, hr, hlk, hnm⟩ := hX0
  have hx := X.1.1
  have hb := X.1.2.1
  intro H locs ls hM hl
  refine lv_aload_n (pc := 0) hx hb dX6_countings_0 rfl (lv_at hl 0 rfl) ?_
  obtain ⟨v1, e2, h⟩ := ob h
  refine bz_getI (pc := 1) X hM fl_RX6_80 e2 dX6_countings_1 ?_
  obtain rfl := so1 h
  exact bz_iret (pc := 4) X hM hr hlk dX6_countings_4 (Nat.le_of_ble_eq_true rfl) (Nat.le_of_ble_eq_true rfl)
theorem rX6_countings {M : Mm} {a0 : Nat} {r9 : Int32} (h : fX6_countings M a0 = some r9) : ∃ fs, M[a0]? = some (.inr (6, fs)) := by
  unfold fX6_countings at h
  obtain ⟨_, e1, _⟩ := ob h
  exact gC_spec e1
theorem ctX6_countings (l : Launch) {P : PT} {M : Mm} {a0 : Nat} {r9 : Int32} (h : fX6_countings M a0 = some r9) : Ct l yX6_countings cX6_countings 1 (some .int) 0 0 P [.ref (pB P + a0)] M (some (.int r9)) M :=
  Ct.mk (by decide +kernel) (Nat.le_of_ble_eq_true rfl) (fun p e s m args below meth c hX => wX6_countings hX M a0 h)
set_option maxHeartbeats 4000000 in
set_option maxRecDepth 100000 in
theorem wX0_init {p : Program} {l : Launch} {e : Env} {s : State} {m : MethodId} {args : Array Value} {below : List Frame} {meth : Method} {c : Code} {P : PT}  {M9 : Mm} (hX : Cy p s m args c meth cX0_init 7 RX0 "<init>" none P)  (M : Mm) (a0 : Nat) (a1 : Int32) (a2 : Int32) (a3 : Int32) (a4 : Int32) (a5 : Int32) (a6 : Int32) (h : fX0_init M a0 a1 a2 a3 a4 a5 a6 = some M9) : Wq p l e s m args below meth c 1 0 none M9 7 P 0 0 [(0, .ref (pB P + a0)), (1, .int a1), (2, .int a2), (3, .int a3), (4, .int a4), (5, .int a5), (6, .int a6)] [] M := by
  unfold fX0_init at h
  have hX0 := hX
  obtain ⟨X, hr, hlk, hnm⟩ := hX0
  have hx := X.1.1
  have hb := X.1.2.1
  intro H locs ls hM hl
  refine lv_aload_n (pc := 0) hx hb dX0_init_0 rfl (lv_at hl 0 rfl) ?_
  refine bz_obj (pc := 1) X hl.1 g_793 m_oi m_oc (Nat.le_of_ble_eq_true rfl) (Nat.le_of_ble_eq_true rfl) dX0_init_1 ?_
  refine lv_aload_n (pc := 4) hx hb dX0_init_4 rfl (lv_at hl 0 rfl) ?_
  refine lv_iload_n (pc := 5) hx hb dX0_init_5 rfl (lv_at hl 1 rfl) ?_
  obtain ⟨M1, e2, h⟩ := ob h
  refine bz_putI (pc := 6) X hM fp_RX0_9 (Or.inr hnm) e2 dX0_init_6 (fun H locs hM => ?_)
  refine lv_aload_n (pc := 9) hx hb dX0_init_9 rfl (lv_at hl 0 rfl) ?_
  refine lv_iload_n (pc := 10) hx hb dX0_init_10 rfl (lv_at hl 2 rfl) ?_
  obtain ⟨M3, e4, h⟩ := ob h
  refine bz_putI (pc := 11) X hM fp_RX0_15 (Or.inr hnm) e4 dX0_init_11 (fun H locs hM => ?_)
  refine lv_aload_n (pc := 14) hx hb dX0_init_14 rfl (lv_at hl 0 rfl) ?_
  refine lv_iload_n (pc := 15) hx hb dX0_init_15 rfl (lv_at hl 3 rfl) ?_
  obtain ⟨M5, e6, h⟩ := ob h
  refine bz_putI (pc := 16) X hM fp_RX0_18 (Or.inr hnm) e6 dX0_init_16 (fun H locs hM => ?_)
  refine lv_aload_n (pc := 19) hx hb dX0_init_19 rfl (lv_at hl 0 rfl) ?_
  refine lv_iload (pc := 20) hx hb dX0_init_20 (lv_at hl 4 rfl) ?_
  obtain ⟨M7, e8, h⟩ := ob h
  refine bz_putI (pc := 22) X hM fp_RX0_21 (Or.inr hnm) e8 dX0_init_22 (fun H locs hM => ?_)
  refine lv_aload_n (pc := 25) hx hb dX0_init_25 rfl (lv_at hl 0 rfl) ?_
  refine lv_iload (pc := 26) hx hb dX0_init_26 (lv_at hl 5 rfl) ?_
  obtain ⟨M9, e10, h⟩ := ob h
  refine bz_putI (pc := 28) X hM fp_RX0_24 (Or.inr hnm) e10 dX0_init_28 (fun H locs hM => ?_)
  refine lv_aload_n (pc := 31) hx hb dX0_init_31 rfl (lv_at hl 0 rfl) ?_
  refine lv_iload (pc := 32) hx hb dX0_init_32 (lv_at hl 6 rfl) ?_
  obtain ⟨M11, e12, h⟩ := ob h
  refine bz_putI (pc := 34) X hM fp_RX0_27 (Or.inr hnm) e12 dX0_init_34 (fun H locs hM => ?_)
  obtain rfl := so1 h
  exact bz_vret (pc := 37) X hM hr hlk dX0_init_37 (Nat.le_of_ble_eq_true rfl) (Nat.le_of_ble_eq_true rfl)
theorem ctX0_init (l : Launch) {P : PT} {M : Mm} {a0 : Nat} {a1 : Int32} {a2 : Int32} {a3 : Int32} {a4 : Int32} {a5 : Int32} {a6 : Int32} {M9 : Mm} (h : fX0_init M a0 a1 a2 a3 a4 a5 a6 = some M9) : Ct l yX0_init cX0_init 7 none 1 0 P [.ref (pB P + a0), .int a1, .int a2, .int a3, .int a4, .int a5, .int a6] M none M9 :=
  Ct.mk (by decide +kernel) (Nat.le_of_ble_eq_true rfl) (fun p e s m args below meth c hX => wX0_init hX M a0 a1 a2 a3 a4 a5 a6 h)
set_option maxHeartbeats 4000000 in
set_option maxRecDepth 100000 in
theorem wX6_addCounting {p : Program} {l : Launch} {e : Env} {s : State} {m : MethodId} {args : Array Value} {below : List Frame} {meth : Method} {c : Code} {P : PT}  {M9 : Mm} (hX : Cy p s m args c meth cX6_addCounting 2 RX6 "addCounting" none P)  (M : Mm) (a0 : Nat) (a1 : Nat) (h : fX6_addCounting M a0 a1 = some M9) : Wq p l e s m args below meth c 0 0 none M9 2 P 0 0 [(0, .ref (pB P + a0)), (1, .ref (pB P + a1))] [] M := by
  unfold fX6_addCounting at h
  obtain ⟨_, _, h⟩ := ob h
  have hX0 := hX
  obtain ⟨X, hr, hlk, hnm⟩ := hX0
  have hx := X.1.1
  have hb := X.1.2.1
  intro H locs ls hM hl
  refine lv_aload_n (pc := 0) hx hb dX6_addCounting_0 rfl (lv_at hl 0 rfl) ?_
  obtain ⟨v1, e2, h⟩ := ob h
  refine bz_getI (pc := 1) X hM fl_RX6_80 e2 dX6_addCounting_1 ?_
  refine lv_if_lt (pc := 4) (tgt := 39) hx hb dX6_addCounting_4 (by decide) (fun hc => ?_) (fun hc => ?_)
  · have h := if_t hc h
    obtain rfl := so1 h
    exact bz_vret (pc := 39) X hM hr hlk dX6_addCounting_39 (Nat.le_of_ble_eq_true rfl) (Nat.le_of_ble_eq_true rfl)
  · have h := if_f hc h
    refine lv_aload_n (pc := 7) hx hb dX6_addCounting_7 rfl (lv_at hl 0 rfl) ?_
    obtain ⟨v3, e4, h⟩ := ob h
    refine bz_getI (pc := 8) X hM fl_RX6_80 e4 dX6_addCounting_8 ?_
    refine lv_aload_n (pc := 11) hx hb dX6_addCounting_11 rfl (lv_at hl 0 rfl) ?_
    obtain ⟨q5, e6, h⟩ := ob h
    refine bz_getQ (pc := 12) X hM fl_RX6_43 e6 dX6_addCounting_12 ?_
    obtain ⟨v7, e8, h⟩ := ob h
    refine bz_alen (pc := 15) X hM e8 dX6_addCounting_15 ?_
    refine lv_icmp_ge (pc := 16) (tgt := 39) hx hb dX6_addCounting_16 (by decide) (fun hc => ?_) (fun hc => ?_)
    · have h := if_t hc h
      obtain rfl := so1 h
      exact bz_vret (pc := 39) X hM hr hlk dX6_addCounting_39 (Nat.le_of_ble_eq_true rfl) (Nat.le_of_ble_eq_true rfl)
    · have h := if_f hc h
      refine lv_aload_n (pc := 19) hx hb dX6_addCounting_19 rfl (lv_at hl 0 rfl) ?_
      obtain ⟨q9, e10, h⟩ := ob h
      refine bz_getQ (pc := 20) X hM fl_RX6_43 e10 dX6_addCounting_20 ?_
      refine lv_aload_n (pc := 23) hx hb dX6_addCounting_23 rfl (lv_at hl 0 rfl) ?_
      obtain ⟨v11, e12, h⟩ := ob h
      refine bz_getI (pc := 24) X hM fl_RX6_80 e12 dX6_addCounting_24 ?_
      refine lv_aload_n (pc := 27) hx hb dX6_addCounting_27 rfl (lv_at hl 1 rfl) ?_
      obtain ⟨M13, e14, h⟩ := ob h
      refine bz_aast (pc := 28) (t := 3) (ci := 0) (r := (some a1)) X hM ⟨by decide, rfl, rfl⟩ e14 dX6_addCounting_28 (fun H locs hM => ?_)
      refine lv_aload_n (pc := 29) hx hb dX6_addCounting_29 rfl (lv_at hl 0 rfl) ?_
      refine lv_dup (pc := 30) hx hb dX6_addCounting_30 rfl ?_
      obtain ⟨v15, e16, h⟩ := ob h
      refine bz_getI (pc := 31) X hM fl_RX6_80 e16 dX6_addCounting_31 ?_
      refine lv_iconst (pc := 34) (v := (1 : Int32)) hx hb dX6_addCounting_34 (by decide) ?_
      refine lv_iadd (pc := 35) hx hb dX6_addCounting_35 ?_
      obtain ⟨M17, e18, h⟩ := ob h
      refine bz_putI (pc := 36) X hM fp_RX6_80 (Or.inl rfl) e18 dX6_addCounting_36 (fun H locs hM => ?_)
      obtain rfl := so1 h
      exact bz_vret (pc := 39) X hM hr hlk dX6_addCounting_39 (Nat.le_of_ble_eq_true rfl) (Nat.le_of_ble_eq_true rfl)
theorem rX6_addCounting {M : Mm} {a0 : Nat} {a1 : Nat} {r9 : Mm} (h : fX6_addCounting M a0 a1 = some r9) : ∃ fs, M[a0]? = some (.inr (6, fs)) := by
  unfold fX6_addCounting at h
  obtain ⟨_, e1, _⟩ := ob h
  exact gC_spec e1
theorem ctX6_addCounting (l : Launch) {P : PT} {M : Mm} {a0 : Nat} {a1 : Nat} {M9 : Mm} (h : fX6_addCounting M a0 a1 = some M9) : Ct l yX6_addCounting cX6_addCounting 2 none 0 0 P [.ref (pB P + a0), .ref (pB P + a1)] M none M9 :=
  Ct.mk (by decide +kernel) (Nat.le_of_ble_eq_true rfl) (fun p e s m args below meth c hX => wX6_addCounting hX M a0 a1 h)
set_option maxHeartbeats 4000000 in
set_option maxRecDepth 100000 in
theorem wjX10_counting_42 {p : Program} {l : Launch} {e : Env} {s : State} {m : MethodId} {args : Array Value} {below : List Frame} {meth : Method} {c : Code} {P : PT}  {r9 : Int32} {M9 : Mm} (hX : Cy p s m args c meth cX10_counting 7 RX10 "counting" (some .int) P)   (M : Mm) (x0 : Nat)  (h : jX10_counting_42 M x0 = some (r9, M9)) : Wq p l e s m args below meth c 3 1 (some (.int r9)) M9 7 P 0 42 [(0, .ref (pB P + x0))] [] M := by
  unfold jX10_counting_42 at h
  have hX0 := hX
  obtain ⟨X, hr, hlk, hnm⟩ := hX0
  have hx := X.1.1
  have hb := X.1.2.1
  intro H locs ls hM hl
  refine lv_aload_n (pc := 42) hx hb dX10_counting_42 rfl (lv_at hl 0 rfl) ?_
  refine lv_iconst (pc := 43) (v := (1 : Int32)) hx hb dX10_counting_43 (by decide) ?_
  obtain ⟨v2, M3, e1, h⟩ := ob2 h
  obtain ⟨fs4, hb5⟩ := (rX10_error e1)
  refine bz_callV1 (pc := 44) (As := [.int (1 : Int32)]) (rest := []) X hM hl.1 k_RX10_78 (ctX10_error l e1) rfl hb5 rfl rfl ⟨(Nat.le_of_ble_eq_true rfl), (Nat.le_of_ble_eq_true rfl)⟩ (Nat.le_of_ble_eq_true rfl) ⟨(Nat.le_of_ble_eq_true rfl), (Nat.le_of_ble_eq_true rfl)⟩ dX10_counting_44 (fun H locs hM => ?_)
  obtain ⟨rfl, rfl⟩ := so2 h
  exact bz_iret (pc := 47) X hM hr hlk dX10_counting_47 (Nat.le_of_ble_eq_true rfl) (Nat.le_of_ble_eq_true rfl)
set_option maxHeartbeats 4000000 in
set_option maxRecDepth 100000 in
theorem wX10_counting {p : Program} {l : Launch} {e : Env} {s : State} {m : MethodId} {args : Array Value} {below : List Frame} {meth : Method} {c : Code} {P : PT}  {r9 : Int32} {M9 : Mm} (hX : Cy p s m args c meth cX10_counting 7 RX10 "counting" (some .int) P)  (M : Mm) (a0 : Nat) (a1 : Int32) (a2 : Int32) (a3 : Int32) (a4 : Int32) (a5 : Int32) (h : fX10_counting M a0 a1 a2 a3 a4 a5 = some (r9, M9)) : Wq p l e s m args below meth c 3 1 (some (.int r9)) M9 7 P 0 0 [(0, .ref (pB P + a0)), (1, .int a1), (2, .int a2), (3, .int a3), (4, .int a4), (5, .int a5)] [] M := by
  unfold fX10_counting at h
  obtain ⟨_, _, h⟩ := ob h
  have hX0 := hX
  obtain ⟨X, hr, hlk, hnm⟩ := hX0
  have hx := X.1.1
  have hb := X.1.2.1
  intro H locs ls hM hl
  refine lv_iload_n (pc := 0) hx hb dX10_counting_0 rfl (lv_at hl 1 rfl) ?_
  obtain ⟨v2, e1, h⟩ := ob h
  refine bz_callS1 (pc := 1) (As := [.int a1]) (rest := []) X hM hl.1 k_RX10_224 (ctX10_isKind l e1) rfl rfl ⟨(Nat.le_of_ble_eq_true rfl), (Nat.le_of_ble_eq_true rfl)⟩ (Nat.le_of_ble_eq_true rfl) ⟨(Nat.le_of_ble_eq_true rfl), (Nat.le_of_ble_eq_true rfl)⟩ dX10_counting_1 (fun H locs hM => ?_)
  refine lv_if_eq (pc := 4) (tgt := 42) hx hb dX10_counting_4 (by decide) (fun hc => ?_) (fun hc => ?_)
  · have h := if_t hc h
    exact wjX10_counting_42 hX _ _ h H locs ls hM (lv_sub hl [0] rfl)
  · have h := if_f hc h
    refine lv_aload_n (pc := 7) hx hb dX10_counting_7 rfl (lv_at hl 0 rfl) ?_
    refine lv_iload_n (pc := 8) hx hb dX10_counting_8 rfl (lv_at hl 2 rfl) ?_
    obtain ⟨v4, e3, h⟩ := ob h
    obtain ⟨fs5, hb6⟩ := (rX10_isPair e3)
    refine bz_callV1 (pc := 9) (As := [.int a2]) (rest := []) X hM hl.1 k_RX10_211 (ctX10_isPair l e3) rfl hb6 rfl rfl ⟨(Nat.le_of_ble_eq_true rfl), (Nat.le_of_ble_eq_true rfl)⟩ (Nat.le_of_ble_eq_true rfl) ⟨(Nat.le_of_ble_eq_true rfl), (Nat.le_of_ble_eq_true rfl)⟩ dX10_counting_9 (fun H locs hM => ?_)
    refine lv_if_eq (pc := 12) (tgt := 42) hx hb dX10_counting_12 (by decide) (fun hc => ?_) (fun hc => ?_)
    · have h := if_t hc h
      exact wjX10_counting_42 hX _ _ h H locs ls hM (lv_sub hl [0] rfl)
    · have h := if_f hc h
      refine lv_iload_n (pc := 15) hx hb dX10_counting_15 rfl (lv_at hl 3 rfl) ?_
      obtain ⟨v8, e7, h⟩ := ob h
      refine bz_callS1 (pc := 16) (As := [.int a3]) (rest := []) X hM hl.1 k_RX10_145 (ctX10_isLine l e7) rfl rfl ⟨(Nat.le_of_ble_eq_true rfl), (Nat.le_of_ble_eq_true rfl)⟩ (Nat.le_of_ble_eq_true rfl) ⟨(Nat.le_of_ble_eq_true rfl), (Nat.le_of_ble_eq_true rfl)⟩ dX10_counting_16 (fun H locs hM => ?_)
      refine lv_if_eq (pc := 19) (tgt := 42) hx hb dX10_counting_19 (by decide) (fun hc => ?_) (fun hc => ?_)
      · have h := if_t hc h
        exact wjX10_counting_42 hX _ _ h H locs ls hM (lv_sub hl [0] rfl)
      · have h := if_f hc h
        refine lv_iload (pc := 22) hx hb dX10_counting_22 (lv_at hl 4 rfl) ?_
        obtain ⟨v10, e9, h⟩ := ob h
        refine bz_callS1 (pc := 24) (As := [.int a4]) (rest := []) X hM hl.1 k_RX10_214 (ctX10_isWindow l e9) rfl rfl ⟨(Nat.le_of_ble_eq_true rfl), (Nat.le_of_ble_eq_true rfl)⟩ (Nat.le_of_ble_eq_true rfl) ⟨(Nat.le_of_ble_eq_true rfl), (Nat.le_of_ble_eq_true rfl)⟩ dX10_counting_24 (fun H locs hM => ?_)
        refine lv_if_eq (pc := 27) (tgt := 42) hx hb dX10_counting_27 (by decide) (fun hc => ?_) (fun hc => ?_)
        · have h := if_t hc h
          exact wjX10_counting_42 hX _ _ h H locs ls hM (lv_sub hl [0] rfl)
        · have h := if_f hc h
          refine lv_iload (pc := 30) hx hb dX10_counting_30 (lv_at hl 5 rfl) ?_
          refine lv_iconst (pc := 32) (v := (1 : Int32)) hx hb dX10_counting_32 (by decide) ?_
          refine lv_sipush (pc := 33) (v := (999 : Int32)) hx hb dX10_counting_33 (by decide) ?_
          obtain ⟨v12, e11, h⟩ := ob h
          refine bz_callS1 (pc := 36) (As := [.int a5, .int (1 : Int32), .int (999 : Int32)]) (rest := []) X hM hl.1 k_RX10_74 (ctX10_within l e11) rfl rfl ⟨(Nat.le_of_ble_eq_true rfl), (Nat.le_of_ble_eq_true rfl)⟩ (Nat.le_of_ble_eq_true rfl) ⟨(Nat.le_of_ble_eq_true rfl), (Nat.le_of_ble_eq_true rfl)⟩ dX10_counting_36 (fun H locs hM => ?_)
          refine lv_if_ne (pc := 39) (tgt := 48) hx hb dX10_counting_39 (by decide) (fun hc => ?_) (fun hc => ?_)
          · have h := if_f hc h
            refine lv_aload_n (pc := 48) hx hb dX10_counting_48 rfl (lv_at hl 0 rfl) ?_
            obtain ⟨q13, e14, h⟩ := ob h
            refine bz_getQ (pc := 49) X hM fl_RX10_10 e14 dX10_counting_49 ?_
            obtain ⟨v16, e15, h⟩ := ob h
            obtain ⟨fs17, hb18⟩ := (rX6_countings e15)
            refine bz_callV1 (pc := 52) (As := []) (rest := []) X hM hl.1 k_RX10_227 (ctX6_countings l e15) rfl hb18 rfl rfl ⟨(Nat.le_of_ble_eq_true rfl), (Nat.le_of_ble_eq_true rfl)⟩ (Nat.le_of_ble_eq_true rfl) ⟨(Nat.le_of_ble_eq_true rfl), (Nat.le_of_ble_eq_true rfl)⟩ dX10_counting_52 (fun H locs hM => ?_)
            refine lv_istore (pc := 55) (lv' := [(6, .int v16), (0, .ref (pB P + a0)), (1, .int a1), (2, .int a2), (3, .int a3), (4, .int a4), (5, .int a5)]) hx hb dX10_counting_55 hl (by decide) rfl (fun ls hl => ?_)
            refine lv_iload (pc := 57) hx hb dX10_counting_57 (lv_at hl 0 rfl) ?_
            refine lv_bipush (pc := 59) (v := (12 : Int32)) hx hb dX10_counting_59 (by decide) ?_
            refine lv_icmp_lt (pc := 61) (tgt := 70) hx hb dX10_counting_61 (by decide) (fun hc => ?_) (fun hc => ?_)
            · have h := if_t hc h
              refine lv_aload_n (pc := 70) hx hb dX10_counting_70 rfl (lv_at hl 1 rfl) ?_
              obtain ⟨q19, e20, h⟩ := ob h
              refine bz_getQ (pc := 71) X hM fl_RX10_10 e20 dX10_counting_71 ?_
              obtain ⟨M21, e22, h⟩ := ob h
              cases e22
              refine bz_new (pc := 74) X hM cfX0 g_788 g_789 g_98 [.int 0, .int 0, .int 0, .int 0, .int 0, .int 0] (fun j hj => by rcases (show j = 0 ∨ j = 1 ∨ j = 2 ∨ j = 3 ∨ j = 4 ∨ j = 5 by omega) with rfl | rfl | rfl | rfl | rfl | rfl <;> rfl) rfl (Nat.le_of_ble_eq_true rfl) (Nat.le_of_ble_eq_true rfl) dX10_counting_74 (fun H hM => ?_)
              refine lv_dup (pc := 77) hx hb dX10_counting_77 rfl ?_
              refine lv_iload (pc := 78) hx hb dX10_counting_78 (lv_at hl 0 rfl) ?_
              refine lv_iload_n (pc := 80) hx hb dX10_counting_80 rfl (lv_at hl 2 rfl) ?_
              refine lv_iload_n (pc := 81) hx hb dX10_counting_81 rfl (lv_at hl 3 rfl) ?_
              refine lv_iload_n (pc := 82) hx hb dX10_counting_82 rfl (lv_at hl 4 rfl) ?_
              refine lv_iload (pc := 83) hx hb dX10_counting_83 (lv_at hl 5 rfl) ?_
              refine lv_iload (pc := 85) hx hb dX10_counting_85 (lv_at hl 6 rfl) ?_
              obtain ⟨M24, e23, h⟩ := ob h
              refine bz_callI (pc := 87) (As := [.int v16, .int a1, .int a2, .int a3, .int a4, .int a5]) (rest := [.ref (pB P + M.length), .ref (pB P + q19)]) X hM hl.1 k_RX10_232 (ctX0_init l e23) rfl rfl ⟨(Nat.le_of_ble_eq_true rfl), (Nat.le_of_ble_eq_true rfl)⟩ (Nat.le_of_ble_eq_true rfl) ⟨(Nat.le_of_ble_eq_true rfl), (Nat.le_of_ble_eq_true rfl)⟩ dX10_counting_87 (fun H locs hM => ?_)
              obtain ⟨M26, e25, h⟩ := ob h
              obtain ⟨fs27, hb28⟩ := (rX6_addCounting e25)
              refine bz_callV0 (pc := 90) (As := [.ref (pB P + M.length)]) (rest := []) X hM hl.1 k_RX10_235 (ctX6_addCounting l e25) rfl hb28 rfl rfl ⟨(Nat.le_of_ble_eq_true rfl), (Nat.le_of_ble_eq_true rfl)⟩ (Nat.le_of_ble_eq_true rfl) ⟨(Nat.le_of_ble_eq_true rfl), (Nat.le_of_ble_eq_true rfl)⟩ dX10_counting_90 (fun H locs hM => ?_)
              refine lv_iload (pc := 93) hx hb dX10_counting_93 (lv_at hl 0 rfl) ?_
              obtain ⟨rfl, rfl⟩ := so2 h
              exact bz_iret (pc := 95) X hM hr hlk dX10_counting_95 (Nat.le_of_ble_eq_true rfl) (Nat.le_of_ble_eq_true rfl)
            · have h := if_f hc h
              refine lv_aload_n (pc := 64) hx hb dX10_counting_64 rfl (lv_at hl 1 rfl) ?_
              refine lv_iconst (pc := 65) (v := (4 : Int32)) hx hb dX10_counting_65 (by decide) ?_
              obtain ⟨v30, M31, e29, h⟩ := ob2 h
              obtain ⟨fs32, hb33⟩ := (rX10_error e29)
              refine bz_callV1 (pc := 66) (As := [.int (4 : Int32)]) (rest := []) X hM hl.1 k_RX10_78 (ctX10_error l e29) rfl hb33 rfl rfl ⟨(Nat.le_of_ble_eq_true rfl), (Nat.le_of_ble_eq_true rfl)⟩ (Nat.le_of_ble_eq_true rfl) ⟨(Nat.le_of_ble_eq_true rfl), (Nat.le_of_ble_eq_true rfl)⟩ dX10_counting_66 (fun H locs hM => ?_)
              obtain ⟨rfl, rfl⟩ := so2 h
              exact bz_iret (pc := 69) X hM hr hlk dX10_counting_69 (Nat.le_of_ble_eq_true rfl) (Nat.le_of_ble_eq_true rfl)
          · have h := if_t hc h
            exact wjX10_counting_42 hX _ _ h H locs ls hM (lv_sub hl [0] rfl)
theorem rX10_counting {M : Mm} {a0 : Nat} {a1 : Int32} {a2 : Int32} {a3 : Int32} {a4 : Int32} {a5 : Int32} {r9 : Int32 × Mm} (h : fX10_counting M a0 a1 a2 a3 a4 a5 = some r9) : ∃ fs, M[a0]? = some (.inr (10, fs)) := by
  unfold fX10_counting at h
  obtain ⟨_, e1, _⟩ := ob h
  exact gC_spec e1
theorem ctX10_counting (l : Launch) {P : PT} {M : Mm} {a0 : Nat} {a1 : Int32} {a2 : Int32} {a3 : Int32} {a4 : Int32} {a5 : Int32} {r9 : Int32} {M9 : Mm} (h : fX10_counting M a0 a1 a2 a3 a4 a5 = some (r9, M9)) : Ct l yX10_counting cX10_counting 7 (some .int) 3 1 P [.ref (pB P + a0), .int a1, .int a2, .int a3, .int a4, .int a5] M (some (.int r9)) M9 :=
  Ct.mk (by decide +kernel) (Nat.le_of_ble_eq_true rfl) (fun p e s m args below meth c hX => wX10_counting hX M a0 a1 a2 a3 a4 a5 h)
set_option maxHeartbeats 4000000 in
set_option maxRecDepth 100000 in
theorem wjX11_counting_48 {p : Program} {l : Launch} {e : Env} {s : State} {m : MethodId} {args : Array Value} {below : List Frame} {meth : Method} {c : Code} {P : PT}  {r9 : Int32} {M9 : Mm} (hX : Cy p s m args c meth cX11_counting 8 RX11 "counting" (some .int) P)   (M : Mm) (x0 : Nat)  (h : jX11_counting_48 M x0 = some (r9, M9)) : Wq p l e s m args below meth c 3 0 (some (.int r9)) M9 8 P 0 48 [(0, .ref (pB P + x0))] [] M := by
  unfold jX11_counting_48 at h
  have hX0 := hX
  obtain ⟨X, hr, hlk, hnm⟩ := hX0
  have hx := X.1.1
  have hb := X.1.2.1
  intro H locs ls hM hl
  refine lv_aload_n (pc := 48) hx hb dX11_counting_48 rfl (lv_at hl 0 rfl) ?_
  refine lv_iconst (pc := 49) (v := (1 : Int32)) hx hb dX11_counting_49 (by decide) ?_
  obtain ⟨v2, M3, e1, h⟩ := ob2 h
  obtain ⟨fs4, hb5⟩ := (rX11_error e1)
  refine bz_callV1 (pc := 50) (As := [.int (1 : Int32)]) (rest := []) X hM hl.1 k_RX11_73 (ctX11_error l e1) rfl hb5 rfl rfl ⟨(Nat.le_of_ble_eq_true rfl), (Nat.le_of_ble_eq_true rfl)⟩ (Nat.le_of_ble_eq_true rfl) ⟨(Nat.le_of_ble_eq_true rfl), (Nat.le_of_ble_eq_true rfl)⟩ dX11_counting_50 (fun H locs hM => ?_)
  obtain ⟨rfl, rfl⟩ := so2 h
  exact bz_iret (pc := 53) X hM hr hlk dX11_counting_53 (Nat.le_of_ble_eq_true rfl) (Nat.le_of_ble_eq_true rfl)
set_option maxHeartbeats 4000000 in
set_option maxRecDepth 100000 in
theorem wX11_counting {p : Program} {l : Launch} {e : Env} {s : State} {m : MethodId} {args : Array Value} {below : List Frame} {meth : Method} {c : Code} {P : PT}  {r9 : Int32} {M9 : Mm} (hX : Cy p s m args c meth cX11_counting 8 RX11 "counting" (some .int) P)  (M : Mm) (a0 : Nat) (a1 : Int32) (a2 : Int32) (a3 : Int32) (a4 : Int32) (a5 : Int32) (h : fX11_counting M a0 a1 a2 a3 a4 a5 = some (r9, M9)) : Wq p l e s m args below meth c 3 0 (some (.int r9)) M9 8 P 0 0 [(0, .ref (pB P + a0)), (1, .int a1), (2, .int a2), (3, .int a3), (4, .int a4), (5, .int a5)] [] M := by
  unfold fX11_counting at h
  obtain ⟨_, _, h⟩ := ob h
  have hX0 := hX
  obtain ⟨X, hr, hlk, hnm⟩ := hX0
  have hx := X.1.1
  have hb := X.1.2.1
  intro H locs ls hM hl
  refine lv_iload_n (pc := 0) hx hb dX11_counting_0 rfl (lv_at hl 1 rfl) ?_
  refine lv_i2l (pc := 1) (v := ((a1).toInt64)) hx hb dX11_counting_1 rfl ?_
  refine lv_lconst (pc := 2) (v := (0 : Int64)) hx hb dX11_counting_2 (by decide) ?_
  refine lv_ldc2 (pc := 3) (v := (7 : Int64)) hx hb X.1.2.2.2.1 (X.1.2.2.2.2 _ g_1460) dX11_counting_3 ?_
  obtain ⟨v2, e1, h⟩ := ob h
  refine bz_callS1 (pc := 6) (As := [.long ((a1).toInt64), .long (0 : Int64), .long (7 : Int64)]) (rest := []) X hM hl.1 k_RX11_57 (ctX11_in l e1) rfl rfl ⟨(Nat.le_of_ble_eq_true rfl), (Nat.le_of_ble_eq_true rfl)⟩ (Nat.le_of_ble_eq_true rfl) ⟨(Nat.le_of_ble_eq_true rfl), (Nat.le_of_ble_eq_true rfl)⟩ dX11_counting_6 (fun H locs hM => ?_)
  refine lv_if_eq (pc := 9) (tgt := 48) hx hb dX11_counting_9 (by decide) (fun hc => ?_) (fun hc => ?_)
  · have h := if_t hc h
    exact wjX11_counting_48 hX _ _ h H locs ls hM (lv_sub hl [0] rfl)
  · have h := if_f hc h
    refine lv_aload_n (pc := 12) hx hb dX11_counting_12 rfl (lv_at hl 0 rfl) ?_
    refine lv_iload_n (pc := 13) hx hb dX11_counting_13 rfl (lv_at hl 2 rfl) ?_
    obtain ⟨v4, e3, h⟩ := ob h
    obtain ⟨fs5, hb6⟩ := (rX11_isPair e3)
    refine bz_callV1 (pc := 14) (As := [.int a2]) (rest := []) X hM hl.1 k_RX11_131 (ctX11_isPair l e3) rfl hb6 rfl rfl ⟨(Nat.le_of_ble_eq_true rfl), (Nat.le_of_ble_eq_true rfl)⟩ (Nat.le_of_ble_eq_true rfl) ⟨(Nat.le_of_ble_eq_true rfl), (Nat.le_of_ble_eq_true rfl)⟩ dX11_counting_14 (fun H locs hM => ?_)
    refine lv_if_eq (pc := 17) (tgt := 48) hx hb dX11_counting_17 (by decide) (fun hc => ?_) (fun hc => ?_)
    · have h := if_t hc h
      exact wjX11_counting_48 hX _ _ h H locs ls hM (lv_sub hl [0] rfl)
    · have h := if_f hc h
      refine lv_iload_n (pc := 20) hx hb dX11_counting_20 rfl (lv_at hl 3 rfl) ?_
      obtain ⟨v8, e7, h⟩ := ob h
      refine bz_callS1 (pc := 21) (As := [.int a3]) (rest := []) X hM hl.1 k_RX11_117 (ctX11_isLine l e7) rfl rfl ⟨(Nat.le_of_ble_eq_true rfl), (Nat.le_of_ble_eq_true rfl)⟩ (Nat.le_of_ble_eq_true rfl) ⟨(Nat.le_of_ble_eq_true rfl), (Nat.le_of_ble_eq_true rfl)⟩ dX11_counting_21 (fun H locs hM => ?_)
      refine lv_if_eq (pc := 24) (tgt := 48) hx hb dX11_counting_24 (by decide) (fun hc => ?_) (fun hc => ?_)
      · have h := if_t hc h
        exact wjX11_counting_48 hX _ _ h H locs ls hM (lv_sub hl [0] rfl)
      · have h := if_f hc h
        refine lv_iload (pc := 27) hx hb dX11_counting_27 (lv_at hl 4 rfl) ?_
        obtain ⟨v10, e9, h⟩ := ob h
        refine bz_callS1 (pc := 29) (As := [.int a4]) (rest := []) X hM hl.1 k_RX11_134 (ctX11_isWindow l e9) rfl rfl ⟨(Nat.le_of_ble_eq_true rfl), (Nat.le_of_ble_eq_true rfl)⟩ (Nat.le_of_ble_eq_true rfl) ⟨(Nat.le_of_ble_eq_true rfl), (Nat.le_of_ble_eq_true rfl)⟩ dX11_counting_29 (fun H locs hM => ?_)
        refine lv_if_eq (pc := 32) (tgt := 48) hx hb dX11_counting_32 (by decide) (fun hc => ?_) (fun hc => ?_)
        · have h := if_t hc h
          exact wjX11_counting_48 hX _ _ h H locs ls hM (lv_sub hl [0] rfl)
        · have h := if_f hc h
          refine lv_iload (pc := 35) hx hb dX11_counting_35 (lv_at hl 5 rfl) ?_
          refine lv_i2l (pc := 37) (v := ((a5).toInt64)) hx hb dX11_counting_37 rfl ?_
          refine lv_lconst (pc := 38) (v := (1 : Int64)) hx hb dX11_counting_38 (by decide) ?_
          refine lv_ldc2 (pc := 39) (v := (999 : Int64)) hx hb X.1.2.2.2.1 (X.1.2.2.2.2 _ g_1276) dX11_counting_39 ?_
          obtain ⟨v12, e11, h⟩ := ob h
          refine bz_callS1 (pc := 42) (As := [.long ((a5).toInt64), .long (1 : Int64), .long (999 : Int64)]) (rest := []) X hM hl.1 k_RX11_57 (ctX11_in l e11) rfl rfl ⟨(Nat.le_of_ble_eq_true rfl), (Nat.le_of_ble_eq_true rfl)⟩ (Nat.le_of_ble_eq_true rfl) ⟨(Nat.le_of_ble_eq_true rfl), (Nat.le_of_ble_eq_true rfl)⟩ dX11_counting_42 (fun H locs hM => ?_)
          refine lv_if_ne (pc := 45) (tgt := 54) hx hb dX11_counting_45 (by decide) (fun hc => ?_) (fun hc => ?_)
          · have h := if_f hc h
            refine lv_aload_n (pc := 54) hx hb dX11_counting_54 rfl (lv_at hl 0 rfl) ?_
            obtain ⟨q13, e14, h⟩ := ob h
            refine bz_getQ (pc := 55) X hM fl_RX11_9 e14 dX11_counting_55 ?_
            refine lv_iconst (pc := 58) (v := (2 : Int32)) hx hb dX11_counting_58 (by decide) ?_
            obtain ⟨v15, e16, h⟩ := ob h
            refine bz_iald (pc := 59) X hM e16 dX11_counting_59 ?_
            refine lv_istore (pc := 60) (lv' := [(6, .int v15), (0, .ref (pB P + a0)), (1, .int a1), (2, .int a2), (3, .int a3), (4, .int a4), (5, .int a5)]) hx hb dX11_counting_60 hl (by decide) rfl (fun ls hl => ?_)
            refine lv_iload (pc := 62) hx hb dX11_counting_62 (lv_at hl 0 rfl) ?_
            refine lv_bipush (pc := 64) (v := (12 : Int32)) hx hb dX11_counting_64 (by decide) ?_
            refine lv_icmp_ne (pc := 66) (tgt := 75) hx hb dX11_counting_66 (by decide) (fun hc => ?_) (fun hc => ?_)
            · have h := if_f hc h
              refine lv_sipush (pc := 75) (v := (306 : Int32)) hx hb dX11_counting_75 (by decide) ?_
              refine lv_iconst (pc := 78) (v := (5 : Int32)) hx hb dX11_counting_78 (by decide) ?_
              refine lv_iload (pc := 79) hx hb dX11_counting_79 (lv_at hl 0 rfl) ?_
              refine lv_imul (pc := 81) hx hb dX11_counting_81 ?_
              refine lv_iadd (pc := 82) hx hb dX11_counting_82 ?_
              refine lv_istore (pc := 83) (lv' := [(7, .int ((306 : Int32) + ((5 : Int32) * v15))), (6, .int v15), (0, .ref (pB P + a0)), (1, .int a1), (2, .int a2), (3, .int a3), (4, .int a4), (5, .int a5)]) hx hb dX11_counting_83 hl (by decide) rfl (fun ls hl => ?_)
              refine lv_aload_n (pc := 85) hx hb dX11_counting_85 rfl (lv_at hl 2 rfl) ?_
              obtain ⟨q17, e18, h⟩ := ob h
              refine bz_getQ (pc := 86) X hM fl_RX11_9 e18 dX11_counting_86 ?_
              refine lv_iload (pc := 89) hx hb dX11_counting_89 (lv_at hl 0 rfl) ?_
              refine lv_iload_n (pc := 91) hx hb dX11_counting_91 rfl (lv_at hl 3 rfl) ?_
              obtain ⟨M19, e20, h⟩ := ob h
              refine bz_iast (pc := 92) X hM e20 dX11_counting_92 (fun H locs hM => ?_)
              refine lv_aload_n (pc := 93) hx hb dX11_counting_93 rfl (lv_at hl 2 rfl) ?_
              obtain ⟨q21, e22, h⟩ := ob h
              refine bz_getQ (pc := 94) X hM fl_RX11_9 e22 dX11_counting_94 ?_
              refine lv_iload (pc := 97) hx hb dX11_counting_97 (lv_at hl 0 rfl) ?_
              refine lv_iconst (pc := 99) (v := (1 : Int32)) hx hb dX11_counting_99 (by decide) ?_
              refine lv_iadd (pc := 100) hx hb dX11_counting_100 ?_
              refine lv_iload_n (pc := 101) hx hb dX11_counting_101 rfl (lv_at hl 4 rfl) ?_
              obtain ⟨M23, e24, h⟩ := ob h
              refine bz_iast (pc := 102) X hM e24 dX11_counting_102 (fun H locs hM => ?_)
              refine lv_aload_n (pc := 103) hx hb dX11_counting_103 rfl (lv_at hl 2 rfl) ?_
              obtain ⟨q25, e26, h⟩ := ob h
              refine bz_getQ (pc := 104) X hM fl_RX11_9 e26 dX11_counting_104 ?_
              refine lv_iload (pc := 107) hx hb dX11_counting_107 (lv_at hl 0 rfl) ?_
              refine lv_iconst (pc := 109) (v := (2 : Int32)) hx hb dX11_counting_109 (by decide) ?_
              refine lv_iadd (pc := 110) hx hb dX11_counting_110 ?_
              refine lv_iload_n (pc := 111) hx hb dX11_counting_111 rfl (lv_at hl 5 rfl) ?_
              obtain ⟨M27, e28, h⟩ := ob h
              refine bz_iast (pc := 112) X hM e28 dX11_counting_112 (fun H locs hM => ?_)
              refine lv_aload_n (pc := 113) hx hb dX11_counting_113 rfl (lv_at hl 2 rfl) ?_
              obtain ⟨q29, e30, h⟩ := ob h
              refine bz_getQ (pc := 114) X hM fl_RX11_9 e30 dX11_counting_114 ?_
              refine lv_iload (pc := 117) hx hb dX11_counting_117 (lv_at hl 0 rfl) ?_
              refine lv_iconst (pc := 119) (v := (3 : Int32)) hx hb dX11_counting_119 (by decide) ?_
              refine lv_iadd (pc := 120) hx hb dX11_counting_120 ?_
              refine lv_iload (pc := 121) hx hb dX11_counting_121 (lv_at hl 6 rfl) ?_
              obtain ⟨M31, e32, h⟩ := ob h
              refine bz_iast (pc := 123) X hM e32 dX11_counting_123 (fun H locs hM => ?_)
              refine lv_aload_n (pc := 124) hx hb dX11_counting_124 rfl (lv_at hl 2 rfl) ?_
              obtain ⟨q33, e34, h⟩ := ob h
              refine bz_getQ (pc := 125) X hM fl_RX11_9 e34 dX11_counting_125 ?_
              refine lv_iload (pc := 128) hx hb dX11_counting_128 (lv_at hl 0 rfl) ?_
              refine lv_iconst (pc := 130) (v := (4 : Int32)) hx hb dX11_counting_130 (by decide) ?_
              refine lv_iadd (pc := 131) hx hb dX11_counting_131 ?_
              refine lv_iload (pc := 132) hx hb dX11_counting_132 (lv_at hl 7 rfl) ?_
              obtain ⟨M35, e36, h⟩ := ob h
              refine bz_iast (pc := 134) X hM e36 dX11_counting_134 (fun H locs hM => ?_)
              refine lv_aload_n (pc := 135) hx hb dX11_counting_135 rfl (lv_at hl 2 rfl) ?_
              obtain ⟨q37, e38, h⟩ := ob h
              refine bz_getQ (pc := 136) X hM fl_RX11_9 e38 dX11_counting_136 ?_
              refine lv_iconst (pc := 139) (v := (2 : Int32)) hx hb dX11_counting_139 (by decide) ?_
              refine lv_dup2_11 (pc := 140) hx hb dX11_counting_140 rfl rfl ?_
              obtain ⟨v39, e40, h⟩ := ob h
              refine bz_iald (pc := 141) X hM e40 dX11_counting_141 ?_
              refine lv_iconst (pc := 142) (v := (1 : Int32)) hx hb dX11_counting_142 (by decide) ?_
              refine lv_iadd (pc := 143) hx hb dX11_counting_143 ?_
              obtain ⟨M41, e42, h⟩ := ob h
              refine bz_iast (pc := 144) X hM e42 dX11_counting_144 (fun H locs hM => ?_)
              refine lv_iload (pc := 145) hx hb dX11_counting_145 (lv_at hl 1 rfl) ?_
              obtain ⟨rfl, rfl⟩ := so2 h
              exact bz_iret (pc := 147) X hM hr hlk dX11_counting_147 (Nat.le_of_ble_eq_true rfl) (Nat.le_of_ble_eq_true rfl)
            · have h := if_t hc h
              refine lv_aload_n (pc := 69) hx hb dX11_counting_69 rfl (lv_at hl 1 rfl) ?_
              refine lv_iconst (pc := 70) (v := (4 : Int32)) hx hb dX11_counting_70 (by decide) ?_
              obtain ⟨v44, M45, e43, h⟩ := ob2 h
              obtain ⟨fs46, hb47⟩ := (rX11_error e43)
              refine bz_callV1 (pc := 71) (As := [.int (4 : Int32)]) (rest := []) X hM hl.1 k_RX11_73 (ctX11_error l e43) rfl hb47 rfl rfl ⟨(Nat.le_of_ble_eq_true rfl), (Nat.le_of_ble_eq_true rfl)⟩ (Nat.le_of_ble_eq_true rfl) ⟨(Nat.le_of_ble_eq_true rfl), (Nat.le_of_ble_eq_true rfl)⟩ dX11_counting_71 (fun H locs hM => ?_)
              obtain ⟨rfl, rfl⟩ := so2 h
              exact bz_iret (pc := 74) X hM hr hlk dX11_counting_74 (Nat.le_of_ble_eq_true rfl) (Nat.le_of_ble_eq_true rfl)
          · have h := if_t hc h
            exact wjX11_counting_48 hX _ _ h H locs ls hM (lv_sub hl [0] rfl)
theorem rX11_counting {M : Mm} {a0 : Nat} {a1 : Int32} {a2 : Int32} {a3 : Int32} {a4 : Int32} {a5 : Int32} {r9 : Int32 × Mm} (h : fX11_counting M a0 a1 a2 a3 a4 a5 = some r9) : ∃ fs, M[a0]? = some (.inr (11, fs)) := by
  unfold fX11_counting at h
  obtain ⟨_, e1, _⟩ := ob h
  exact gC_spec e1
theorem ctX11_counting (l : Launch) {P : PT} {M : Mm} {a0 : Nat} {a1 : Int32} {a2 : Int32} {a3 : Int32} {a4 : Int32} {a5 : Int32} {r9 : Int32} {M9 : Mm} (h : fX11_counting M a0 a1 a2 a3 a4 a5 = some (r9, M9)) : Ct l yX11_counting cX11_counting 8 (some .int) 3 0 P [.ref (pB P + a0), .int a1, .int a2, .int a3, .int a4, .int a5] M (some (.int r9)) M9 :=
  Ct.mk (by decide +kernel) (Nat.le_of_ble_eq_true rfl) (fun p e s m args below meth c hX => wX11_counting hX M a0 a1 a2 a3 a4 a5 h)
set_option maxHeartbeats 4000000 in
set_option maxRecDepth 100000 in
theorem wX6_countingAt {p : Program} {l : Launch} {e : Env} {s : State} {m : MethodId} {args : Array Value} {below : List Frame} {meth : Method} {c : Code} {P : PT}  {r9 : Option Nat} (hX : Cy p s m args c meth cX6_countingAt 2 RX6 "countingAt" (some (.object "BarsTogether$Counting")) P)  (M : Mm) (a0 : Nat) (a1 : Int32) (h : fX6_countingAt M a0 a1 = some r9) : Wq p l e s m args below meth c 0 0 (some (rO P r9)) M 2 P 0 0 [(0, .ref (pB P + a0)), (1, .int a1)] [] M := by
  unfold fX6_countingAt at h
  obtain ⟨_, _, h⟩ := ob h
  have hX0 := hX
  obtain ⟨X, hr, hlk, hnm⟩ := hX0
  have hx := X.1.1
  have hb := X.1.2.1
  intro H locs ls hM hl
  refine lv_iload_n (pc := 0) hx hb dX6_countingAt_0 rfl (lv_at hl 1 rfl) ?_
  refine lv_if_lt (pc := 1) (tgt := 30) hx hb dX6_countingAt_1 (by decide) (fun hc => ?_) (fun hc => ?_)
  · have h := if_t hc h
    refine lv_null (pc := 30) hx hb dX6_countingAt_30 ?_
    obtain rfl := so1 h
    exact bz_aret (pc := 31) (r := none) X hM hr hlk dX6_countingAt_31 (Nat.le_of_ble_eq_true rfl) (Nat.le_of_ble_eq_true rfl)
  · have h := if_f hc h
    refine lv_iload_n (pc := 4) hx hb dX6_countingAt_4 rfl (lv_at hl 1 rfl) ?_
    refine lv_aload_n (pc := 5) hx hb dX6_countingAt_5 rfl (lv_at hl 0 rfl) ?_
    obtain ⟨v1, e2, h⟩ := ob h
    refine bz_getI (pc := 6) X hM fl_RX6_80 e2 dX6_countingAt_6 ?_
    refine lv_icmp_ge (pc := 9) (tgt := 30) hx hb dX6_countingAt_9 (by decide) (fun hc => ?_) (fun hc => ?_)
    · have h := if_t hc h
      refine lv_null (pc := 30) hx hb dX6_countingAt_30 ?_
      obtain rfl := so1 h
      exact bz_aret (pc := 31) (r := none) X hM hr hlk dX6_countingAt_31 (Nat.le_of_ble_eq_true rfl) (Nat.le_of_ble_eq_true rfl)
    · have h := if_f hc h
      refine lv_iload_n (pc := 12) hx hb dX6_countingAt_12 rfl (lv_at hl 1 rfl) ?_
      refine lv_aload_n (pc := 13) hx hb dX6_countingAt_13 rfl (lv_at hl 0 rfl) ?_
      obtain ⟨q3, e4, h⟩ := ob h
      refine bz_getQ (pc := 14) X hM fl_RX6_43 e4 dX6_countingAt_14 ?_
      obtain ⟨v5, e6, h⟩ := ob h
      refine bz_alen (pc := 17) X hM e6 dX6_countingAt_17 ?_
      refine lv_icmp_ge (pc := 18) (tgt := 30) hx hb dX6_countingAt_18 (by decide) (fun hc => ?_) (fun hc => ?_)
      · have h := if_t hc h
        refine lv_null (pc := 30) hx hb dX6_countingAt_30 ?_
        obtain rfl := so1 h
        exact bz_aret (pc := 31) (r := none) X hM hr hlk dX6_countingAt_31 (Nat.le_of_ble_eq_true rfl) (Nat.le_of_ble_eq_true rfl)
      · have h := if_f hc h
        refine lv_aload_n (pc := 21) hx hb dX6_countingAt_21 rfl (lv_at hl 0 rfl) ?_
        obtain ⟨q7, e8, h⟩ := ob h
        refine bz_getQ (pc := 22) X hM fl_RX6_43 e8 dX6_countingAt_22 ?_
        refine lv_iload_n (pc := 25) hx hb dX6_countingAt_25 rfl (lv_at hl 1 rfl) ?_
        obtain ⟨r9, e10, h⟩ := ob h
        refine bz_aald (pc := 26) (t := 3) X hM (by decide) e10 dX6_countingAt_26 ?_
        refine lv_goto (pc := 27) (tgt := 31) hx hb dX6_countingAt_27 (by decide) ?_
        obtain rfl := so1 h
        exact bz_aret (pc := 31) X hM hr hlk dX6_countingAt_31 (Nat.le_of_ble_eq_true rfl) (Nat.le_of_ble_eq_true rfl)
theorem rX6_countingAt {M : Mm} {a0 : Nat} {a1 : Int32} {r9 : Option Nat} (h : fX6_countingAt M a0 a1 = some r9) : ∃ fs, M[a0]? = some (.inr (6, fs)) := by
  unfold fX6_countingAt at h
  obtain ⟨_, e1, _⟩ := ob h
  exact gC_spec e1
theorem ctX6_countingAt (l : Launch) {P : PT} {M : Mm} {a0 : Nat} {a1 : Int32} {r9 : Option Nat} (h : fX6_countingAt M a0 a1 = some r9) : Ct l yX6_countingAt cX6_countingAt 2 (some (.object "BarsTogether$Counting")) 0 0 P [.ref (pB P + a0), .int a1] M (some (rO P r9)) M :=
  Ct.mk (by decide +kernel) (Nat.le_of_ble_eq_true rfl) (fun p e s m args below meth c hX => wX6_countingAt hX M a0 a1 h)
set_option maxHeartbeats 4000000 in
set_option maxRecDepth 100000 in
theorem wX0_kindAbove {p : Program} {l : Launch} {e : Env} {s : State} {m : MethodId} {args : Array Value} {below : List Frame} {meth : Method} {c : Code} {P : PT}  {r9 : Int32} (hX : Cy p s m args c meth cX0_kindAbove 1 RX0 "kindAbove" (some .int) P)  (M : Mm) (a0 : Int32) (h : fX0_kindAbove M a0 = some r9) : Wq p l e s m args below meth c 0 0 (some (.int r9)) M 1 P 0 0 [(0, .int a0)] [] M := by
  unfold fX0_kindAbove at h
  have hX0 := hX
  obtain ⟨X, hr, hlk, hnm⟩ := hX0
  have hx := X.1.1
  have hb := X.1.2.1
  intro H locs ls hM hl
  refine lv_iload_n (pc := 0) hx hb dX0_kindAbove_0 rfl (lv_at hl 0 rfl) ?_
  by_cases hs0 : a0 = (0 : Int32)
  · have h := if_t hs0 h
    refine lv_lookup (pc := 1) (off := 27) (tgt := 28) hx hb dX0_kindAbove_1 (by decide) (by rw [hs0]; decide) (by decide) ?_
    refine lv_iconst (pc := 28) (v := (-1 : Int32)) hx hb dX0_kindAbove_28 (by decide) ?_
    obtain rfl := so1 h
    exact bz_iret (pc := 29) X hM hr hlk dX0_kindAbove_29 (Nat.le_of_ble_eq_true rfl) (Nat.le_of_ble_eq_true rfl)
  have h := if_f hs0 h
  by_cases hs7 : a0 = (7 : Int32)
  · have h := if_t hs7 h
    refine lv_lookup (pc := 1) (off := 29) (tgt := 30) hx hb dX0_kindAbove_1 (by decide) (by rw [hs7]; decide) (by decide) ?_
    refine lv_bipush (pc := 30) (v := (6 : Int32)) hx hb dX0_kindAbove_30 (by decide) ?_
    obtain rfl := so1 h
    exact bz_iret (pc := 32) X hM hr hlk dX0_kindAbove_32 (Nat.le_of_ble_eq_true rfl) (Nat.le_of_ble_eq_true rfl)
  have h := if_f hs7 h
  refine lv_lookup (pc := 1) (off := 32) (tgt := 33) hx hb dX0_kindAbove_1 (by decide) (by show Op.lookupswitch.offset [(0, 27), (7, 29)] _ _ = _; rw [lv_osw hs0 (by decide), lv_osw hs7 (by decide)]; rfl) (by decide) ?_
  refine lv_iconst (pc := 33) (v := (0 : Int32)) hx hb dX0_kindAbove_33 (by decide) ?_
  obtain rfl := so1 h
  exact bz_iret (pc := 34) X hM hr hlk dX0_kindAbove_34 (Nat.le_of_ble_eq_true rfl) (Nat.le_of_ble_eq_true rfl)
theorem ctX0_kindAbove (l : Launch) {P : PT} {M : Mm} {a0 : Int32} {r9 : Int32} (h : fX0_kindAbove M a0 = some r9) : Ct l yX0_kindAbove cX0_kindAbove 1 (some .int) 0 0 P [.int a0] M (some (.int r9)) M :=
  Ct.mk (by decide +kernel) (Nat.le_of_ble_eq_true rfl) (fun p e s m args below meth c hX => wX0_kindAbove hX M a0 h)
set_option maxHeartbeats 4000000 in
set_option maxRecDepth 100000 in
theorem wBX0_isOf_7 {p : Program} {l : Launch} {e : Env} {s : State} {m : MethodId} {args : Array Value} {below : List Frame} {meth : Method} {c : Code} {P : PT} {N : Nat} {K7 : Mm → Int32 → Int32 → Int32 → Option (Int32)}  {r9 : Int32} (hX : Cy p s m args c meth cX0_isOf 4 RX0 "isOf" (some .boolean) P)  (hK7 : ∀ (M : Mm) (x1 : Int32) (x2 : Int32) (x3 : Int32), K7 M x1 x2 x3 = some r9 → Wq p l e s m args below meth c 1 0 (some (.int r9)) M 4 P 0 7 [(1, .int x1), (2, .int x2), (3, .int x3)] [] M) (M : Mm) (x1 : Int32) (x2 : Int32) (x3 : Int32)  (h : BX0_isOf_7 N K7 M x1 x2 x3 = some r9) : Wq p l e s m args below meth c 1 0 (some (.int r9)) M 4 P 0 7 [(1, .int x1), (2, .int x2), (3, .int x3)] [] M := by
  unfold BX0_isOf_7 at h
  have hX0 := hX
  obtain ⟨X, hr, hlk, hnm⟩ := hX0
  have hx := X.1.1
  have hb := X.1.2.1
  intro H locs ls hM hl
  refine lv_iload_n (pc := 7) hx hb dX0_isOf_7 rfl (lv_at hl 2 rfl) ?_
  refine lv_bipush (pc := 8) (v := (8 : Int32)) hx hb dX0_isOf_8 (by decide) ?_
  refine lv_icmp_ge (pc := 10) (tgt := 35) hx hb dX0_isOf_10 (by decide) (fun hc => ?_) (fun hc => ?_)
  · have h := if_t hc h
    refine lv_iconst (pc := 35) (v := (0 : Int32)) hx hb dX0_isOf_35 (by decide) ?_
    obtain rfl := so1 h
    exact bz_zret (pc := 36) X hM hr hlk (by decide) dX0_isOf_36 (Nat.le_of_ble_eq_true rfl) (Nat.le_of_ble_eq_true rfl)
  · have h := if_f hc h
    refine lv_iload_n (pc := 13) hx hb dX0_isOf_13 rfl (lv_at hl 1 rfl) ?_
    refine lv_if_lt (pc := 14) (tgt := 35) hx hb dX0_isOf_14 (by decide) (fun hc => ?_) (fun hc => ?_)
    · have h := if_t hc h
      refine lv_iconst (pc := 35) (v := (0 : Int32)) hx hb dX0_isOf_35 (by decide) ?_
      obtain rfl := so1 h
      exact bz_zret (pc := 36) X hM hr hlk (by decide) dX0_isOf_36 (Nat.le_of_ble_eq_true rfl) (Nat.le_of_ble_eq_true rfl)
    · have h := if_f hc h
      refine lv_iload_n (pc := 17) hx hb dX0_isOf_17 rfl (lv_at hl 1 rfl) ?_
      refine lv_iload_n (pc := 18) hx hb dX0_isOf_18 rfl (lv_at hl 0 rfl) ?_
      refine lv_icmp_ne (pc := 19) (tgt := 24) hx hb dX0_isOf_19 (by decide) (fun hc => ?_) (fun hc => ?_)
      · have h := if_f hc h
        refine lv_iload_n (pc := 24) hx hb dX0_isOf_24 rfl (lv_at hl 1 rfl) ?_
        obtain ⟨v2, e1, h⟩ := ob h
        refine bz_callS1 (pc := 25) (As := [.int x2]) (rest := []) X hM hl.1 k_RX0_30 (ctX0_kindAbove l e1) rfl rfl ⟨(Nat.le_of_ble_eq_true rfl), (Nat.le_of_ble_eq_true rfl)⟩ (Nat.le_of_ble_eq_true rfl) ⟨(Nat.le_of_ble_eq_true rfl), (Nat.le_of_ble_eq_true rfl)⟩ dX0_isOf_25 (fun H locs hM => ?_)
        refine lv_istore_n (pc := 28) (lv' := [(2, .int v2), (1, .int x1), (3, .int x3)]) hx hb dX0_isOf_28 rfl hl (by decide) rfl (fun ls hl => ?_)
        refine lv_iinc (pc := 29) (v := (x3 + (1 : Int32))) (lv' := [(3, .int (x3 + (1 : Int32))), (2, .int v2), (1, .int x1)]) hx hb dX0_isOf_29 hl (k := 2) rfl rfl (by decide) rfl (fun ls hl => ?_)
        refine lv_goto (pc := 32) (tgt := 7) hx hb dX0_isOf_32 (by decide) ?_
        exact hK7 _ _ _ _ h H locs ls hM (lv_sub hl [2, 1, 0] rfl)
      · have h := if_t hc h
        refine lv_iconst (pc := 22) (v := (1 : Int32)) hx hb dX0_isOf_22 (by decide) ?_
        obtain rfl := so1 h
        exact bz_zret (pc := 23) X hM hr hlk (by decide) dX0_isOf_23 (Nat.le_of_ble_eq_true rfl) (Nat.le_of_ble_eq_true rfl)
set_option maxHeartbeats 4000000 in
set_option maxRecDepth 100000 in
theorem wLX0_isOf_7 {p : Program} {l : Launch} {e : Env} {s : State} {m : MethodId} {args : Array Value} {below : List Frame} {meth : Method} {c : Code} {P : PT} {N : Nat}  {r9 : Int32} (hX : Cy p s m args c meth cX0_isOf 4 RX0 "isOf" (some .boolean) P)   : ∀ (n : Nat) (M : Mm) (x1 : Int32) (x2 : Int32) (x3 : Int32) , LX0_isOf_7 N n M x1 x2 x3 = some r9 → Wq p l e s m args below meth c 1 0 (some (.int r9)) M 4 P 0 7 [(1, .int x1), (2, .int x2), (3, .int x3)] [] M := by
  intro n
  induction n with
  | zero => intro M x1 x2 x3 h; cases h
  | succ n ih => intro M x1 x2 x3 h; exact wBX0_isOf_7 hX ih M x1 x2 x3 h
set_option maxHeartbeats 4000000 in
set_option maxRecDepth 100000 in
theorem wX0_isOf {p : Program} {l : Launch} {e : Env} {s : State} {m : MethodId} {args : Array Value} {below : List Frame} {meth : Method} {c : Code} {P : PT} {N : Nat}  {r9 : Int32} (hX : Cy p s m args c meth cX0_isOf 4 RX0 "isOf" (some .boolean) P)  (M : Mm) (a0 : Nat) (a1 : Int32) (h : fX0_isOf N M a0 a1 = some r9) : Wq p l e s m args below meth c 1 0 (some (.int r9)) M 4 P 0 0 [(0, .ref (pB P + a0)), (1, .int a1)] [] M := by
  unfold fX0_isOf at h
  obtain ⟨_, _, h⟩ := ob h
  have hX0 := hX
  obtain ⟨X, hr, hlk, hnm⟩ := hX0
  have hx := X.1.1
  have hb := X.1.2.1
  intro H locs ls hM hl
  refine lv_aload_n (pc := 0) hx hb dX0_isOf_0 rfl (lv_at hl 0 rfl) ?_
  obtain ⟨v1, e2, h⟩ := ob h
  refine bz_getI (pc := 1) X hM fl_RX0_15 e2 dX0_isOf_1 ?_
  refine lv_istore_n (pc := 4) (lv' := [(2, .int v1), (0, .ref (pB P + a0)), (1, .int a1)]) hx hb dX0_isOf_4 rfl hl (by decide) rfl (fun ls hl => ?_)
  refine lv_iconst (pc := 5) (v := (0 : Int32)) hx hb dX0_isOf_5 (by decide) ?_
  refine lv_istore_n (pc := 6) (lv' := [(3, .int (0 : Int32)), (2, .int v1), (0, .ref (pB P + a0)), (1, .int a1)]) hx hb dX0_isOf_6 rfl hl (by decide) rfl (fun ls hl => ?_)
  exact wLX0_isOf_7 hX _ _ _ _ _ h H locs ls hM (lv_sub hl [3, 1, 0] rfl)
theorem rX0_isOf {N : Nat} {M : Mm} {a0 : Nat} {a1 : Int32} {r9 : Int32} (h : fX0_isOf N M a0 a1 = some r9) : ∃ fs, M[a0]? = some (.inr (0, fs)) := by
  unfold fX0_isOf at h
  obtain ⟨_, e1, _⟩ := ob h
  exact gC_spec e1
theorem ctX0_isOf (l : Launch) {P : PT} {N : Nat} {M : Mm} {a0 : Nat} {a1 : Int32} {r9 : Int32} (h : fX0_isOf N M a0 a1 = some r9) : Ct l yX0_isOf cX0_isOf 4 (some .boolean) 1 0 P [.ref (pB P + a0), .int a1] M (some (.int r9)) M :=
  Ct.mk (by decide +kernel) (Nat.le_of_ble_eq_true rfl) (fun p e s m args below meth c hX => wX0_isOf hX M a0 a1 h)
set_option maxHeartbeats 4000000 in
set_option maxRecDepth 100000 in
theorem wjX10_as_20 {p : Program} {l : Launch} {e : Env} {s : State} {m : MethodId} {args : Array Value} {below : List Frame} {meth : Method} {c : Code} {P : PT} {N : Nat}  {r9 : Int32} {M9 : Mm} (hX : Cy p s m args c meth cX10_as 4 RX10 "as" (some .int) P)   (M : Mm) (x0 : Nat)  (h : jX10_as_20 N M x0 = some (r9, M9)) : Wq p l e s m args below meth c 3 0 (some (.int r9)) M9 4 P 0 20 [(0, .ref (pB P + x0))] [] M := by
  unfold jX10_as_20 at h
  have hX0 := hX
  obtain ⟨X, hr, hlk, hnm⟩ := hX0
  have hx := X.1.1
  have hb := X.1.2.1
  intro H locs ls hM hl
  refine lv_aload_n (pc := 20) hx hb dX10_as_20 rfl (lv_at hl 0 rfl) ?_
  refine lv_iconst (pc := 21) (v := (1 : Int32)) hx hb dX10_as_21 (by decide) ?_
  obtain ⟨v2, M3, e1, h⟩ := ob2 h
  obtain ⟨fs4, hb5⟩ := (rX10_error e1)
  refine bz_callV1 (pc := 22) (As := [.int (1 : Int32)]) (rest := []) X hM hl.1 k_RX10_78 (ctX10_error l e1) rfl hb5 rfl rfl ⟨(Nat.le_of_ble_eq_true rfl), (Nat.le_of_ble_eq_true rfl)⟩ (Nat.le_of_ble_eq_true rfl) ⟨(Nat.le_of_ble_eq_true rfl), (Nat.le_of_ble_eq_true rfl)⟩ dX10_as_22 (fun H locs hM => ?_)
  obtain ⟨rfl, rfl⟩ := so2 h
  exact bz_iret (pc := 25) X hM hr hlk dX10_as_25 (Nat.le_of_ble_eq_true rfl) (Nat.le_of_ble_eq_true rfl)
set_option maxHeartbeats 4000000 in
set_option maxRecDepth 100000 in
theorem wX10_as {p : Program} {l : Launch} {e : Env} {s : State} {m : MethodId} {args : Array Value} {below : List Frame} {meth : Method} {c : Code} {P : PT} {N : Nat}  {r9 : Int32} {M9 : Mm} (hX : Cy p s m args c meth cX10_as 4 RX10 "as" (some .int) P)  (M : Mm) (a0 : Nat) (a1 : Int32) (a2 : Int32) (h : fX10_as N M a0 a1 a2 = some (r9, M9)) : Wq p l e s m args below meth c 3 0 (some (.int r9)) M9 4 P 0 0 [(0, .ref (pB P + a0)), (1, .int a1), (2, .int a2)] [] M := by
  unfold fX10_as at h
  obtain ⟨_, _, h⟩ := ob h
  have hX0 := hX
  obtain ⟨X, hr, hlk, hnm⟩ := hX0
  have hx := X.1.1
  have hb := X.1.2.1
  intro H locs ls hM hl
  refine lv_aload_n (pc := 0) hx hb dX10_as_0 rfl (lv_at hl 0 rfl) ?_
  obtain ⟨q1, e2, h⟩ := ob h
  refine bz_getQ (pc := 1) X hM fl_RX10_10 e2 dX10_as_1 ?_
  refine lv_iload_n (pc := 4) hx hb dX10_as_4 rfl (lv_at hl 1 rfl) ?_
  obtain ⟨r4, e3, h⟩ := ob h
  obtain ⟨fs5, hb6⟩ := (rX6_countingAt e3)
  refine bz_callV1 (pc := 5) (As := [.int a1]) (rest := []) X hM hl.1 k_RX10_239 (ctX6_countingAt l e3) rfl hb6 rfl rfl ⟨(Nat.le_of_ble_eq_true rfl), (Nat.le_of_ble_eq_true rfl)⟩ (Nat.le_of_ble_eq_true rfl) ⟨(Nat.le_of_ble_eq_true rfl), (Nat.le_of_ble_eq_true rfl)⟩ dX10_as_5 (fun H locs hM => ?_)
  refine bz_astore_nO (pc := 8) (lv' := [(3, rO P r4), (0, .ref (pB P + a0)), (1, .int a1), (2, .int a2)]) hx hb dX10_as_8 rfl hl (by decide) rfl (fun ls hl => ?_)
  refine bz_aload_nO (pc := 9) hx hb dX10_as_9 rfl (lv_at hl 0 rfl) ?_
  refine bz_ifnullO (pc := 10) (tgt := 20) hx hb dX10_as_10 (by decide) (fun hc => ?_) (fun q7 hc => ?_)
  · subst hc
    have h := om_n rfl h
    have hl : lv_has ls 4 [(3, .null), (0, .ref (pB P + a0)), (1, .int a1), (2, .int a2)] := hl
    exact wjX10_as_20 hX _ _ h H locs ls hM (lv_sub hl [1] rfl)
  · subst hc
    have h := om_s rfl h
    have hl : lv_has ls 4 [(3, .ref (pB P + q7)), (0, .ref (pB P + a0)), (1, .int a1), (2, .int a2)] := hl
    refine lv_iload_n (pc := 13) hx hb dX10_as_13 rfl (lv_at hl 3 rfl) ?_
    obtain ⟨v9, e8, h⟩ := ob h
    refine bz_callS1 (pc := 14) (As := [.int a2]) (rest := []) X hM hl.1 k_RX10_224 (ctX10_isKind l e8) rfl rfl ⟨(Nat.le_of_ble_eq_true rfl), (Nat.le_of_ble_eq_true rfl)⟩ (Nat.le_of_ble_eq_true rfl) ⟨(Nat.le_of_ble_eq_true rfl), (Nat.le_of_ble_eq_true rfl)⟩ dX10_as_14 (fun H locs hM => ?_)
    refine lv_if_ne (pc := 17) (tgt := 26) hx hb dX10_as_17 (by decide) (fun hc => ?_) (fun hc => ?_)
    · have h := if_f hc h
      refine lv_aload_n (pc := 26) hx hb dX10_as_26 rfl (lv_at hl 0 rfl) ?_
      refine lv_iload_n (pc := 27) hx hb dX10_as_27 rfl (lv_at hl 3 rfl) ?_
      obtain ⟨v11, e10, h⟩ := ob h
      obtain ⟨fs12, hb13⟩ := (rX0_isOf e10)
      refine bz_callV1 (pc := 28) (As := [.int a2]) (rest := []) X hM hl.1 k_RX10_243 (ctX0_isOf l e10) rfl hb13 rfl rfl ⟨(Nat.le_of_ble_eq_true rfl), (Nat.le_of_ble_eq_true rfl)⟩ (Nat.le_of_ble_eq_true rfl) ⟨(Nat.le_of_ble_eq_true rfl), (Nat.le_of_ble_eq_true rfl)⟩ dX10_as_28 (fun H locs hM => ?_)
      refine lv_if_ne (pc := 31) (tgt := 40) hx hb dX10_as_31 (by decide) (fun hc => ?_) (fun hc => ?_)
      · have h := if_f hc h
        refine lv_aload_n (pc := 40) hx hb dX10_as_40 rfl (lv_at hl 0 rfl) ?_
        obtain ⟨v14, e15, h⟩ := ob h
        refine bz_getI (pc := 41) X hM fl_RX10_246 e15 dX10_as_41 ?_
        obtain ⟨rfl, rfl⟩ := so2 h
        exact bz_iret (pc := 44) X hM hr hlk dX10_as_44 (Nat.le_of_ble_eq_true rfl) (Nat.le_of_ble_eq_true rfl)
      · have h := if_t hc h
        refine lv_aload_n (pc := 34) hx hb dX10_as_34 rfl (lv_at hl 1 rfl) ?_
        refine lv_iconst (pc := 35) (v := (5 : Int32)) hx hb dX10_as_35 (by decide) ?_
        obtain ⟨v17, M18, e16, h⟩ := ob2 h
        obtain ⟨fs19, hb20⟩ := (rX10_error e16)
        refine bz_callV1 (pc := 36) (As := [.int (5 : Int32)]) (rest := []) X hM hl.1 k_RX10_78 (ctX10_error l e16) rfl hb20 rfl rfl ⟨(Nat.le_of_ble_eq_true rfl), (Nat.le_of_ble_eq_true rfl)⟩ (Nat.le_of_ble_eq_true rfl) ⟨(Nat.le_of_ble_eq_true rfl), (Nat.le_of_ble_eq_true rfl)⟩ dX10_as_36 (fun H locs hM => ?_)
        obtain ⟨rfl, rfl⟩ := so2 h
        exact bz_iret (pc := 39) X hM hr hlk dX10_as_39 (Nat.le_of_ble_eq_true rfl) (Nat.le_of_ble_eq_true rfl)
    · have h := if_t hc h
      exact wjX10_as_20 hX _ _ h H locs ls hM (lv_sub hl [1] rfl)
theorem rX10_as {N : Nat} {M : Mm} {a0 : Nat} {a1 : Int32} {a2 : Int32} {r9 : Int32 × Mm} (h : fX10_as N M a0 a1 a2 = some r9) : ∃ fs, M[a0]? = some (.inr (10, fs)) := by
  unfold fX10_as at h
  obtain ⟨_, e1, _⟩ := ob h
  exact gC_spec e1
theorem ctX10_as (l : Launch) {P : PT} {N : Nat} {M : Mm} {a0 : Nat} {a1 : Int32} {a2 : Int32} {r9 : Int32} {M9 : Mm} (h : fX10_as N M a0 a1 a2 = some (r9, M9)) : Ct l yX10_as cX10_as 4 (some .int) 3 0 P [.ref (pB P + a0), .int a1, .int a2] M (some (.int r9)) M9 :=
  Ct.mk (by decide +kernel) (Nat.le_of_ble_eq_true rfl) (fun p e s m args below meth c hX => wX10_as hX M a0 a1 a2 h)
set_option maxHeartbeats 4000000 in
set_option maxRecDepth 100000 in
theorem wX11_isCounting {p : Program} {l : Launch} {e : Env} {s : State} {m : MethodId} {args : Array Value} {below : List Frame} {meth : Method} {c : Code} {P : PT}  {r9 : Int32} (hX : Cy p s m args c meth cX11_isCounting 2 RX11 "isCounting" (some .boolean) P)  (M : Mm) (a0 : Nat) (a1 : Int32) (h : fX11_isCounting M a0 a1 = some r9) : Wq p l e s m args below meth c 1 0 (some (.int r9)) M 2 P 0 0 [(0, .ref (pB P + a0)), (1, .int a1)] [] M := by
  unfold fX11_isCounting at h
  obtain ⟨_, _, h⟩ := ob h
  have hX0 := hX
  obtain ⟨X, hr, hlk, hnm⟩ := hX0
  have hx := X.1.1
  have hb := X.1.2.1
  intro H locs ls hM hl
  refine lv_iload_n (pc := 0) hx hb dX11_isCounting_0 rfl (lv_at hl 1 rfl) ?_
  refine lv_i2l (pc := 1) (v := ((a1).toInt64)) hx hb dX11_isCounting_1 rfl ?_
  refine lv_lconst (pc := 2) (v := (0 : Int64)) hx hb dX11_isCounting_2 (by decide) ?_
  refine lv_aload_n (pc := 3) hx hb dX11_isCounting_3 rfl (lv_at hl 0 rfl) ?_
  obtain ⟨q1, e2, h⟩ := ob h
  refine bz_getQ (pc := 4) X hM fl_RX11_9 e2 dX11_isCounting_4 ?_
  refine lv_iconst (pc := 7) (v := (2 : Int32)) hx hb dX11_isCounting_7 (by decide) ?_
  obtain ⟨v3, e4, h⟩ := ob h
  refine bz_iald (pc := 8) X hM e4 dX11_isCounting_8 ?_
  refine lv_iconst (pc := 9) (v := (1 : Int32)) hx hb dX11_isCounting_9 (by decide) ?_
  refine lv_isub (pc := 10) hx hb dX11_isCounting_10 ?_
  refine lv_i2l (pc := 11) (v := (((v3 - (1 : Int32))).toInt64)) hx hb dX11_isCounting_11 rfl ?_
  obtain ⟨v6, e5, h⟩ := ob h
  refine bz_callS1 (pc := 12) (As := [.long ((a1).toInt64), .long (0 : Int64), .long (((v3 - (1 : Int32))).toInt64)]) (rest := []) X hM hl.1 k_RX11_57 (ctX11_in l e5) rfl rfl ⟨(Nat.le_of_ble_eq_true rfl), (Nat.le_of_ble_eq_true rfl)⟩ (Nat.le_of_ble_eq_true rfl) ⟨(Nat.le_of_ble_eq_true rfl), (Nat.le_of_ble_eq_true rfl)⟩ dX11_isCounting_12 (fun H locs hM => ?_)
  obtain ⟨v7, e8, h⟩ := ob h
  obtain rfl := so1 h
  exact bz_zretz (pc := 15) X hM hr hlk e8 dX11_isCounting_15 (Nat.le_of_ble_eq_true rfl) (Nat.le_of_ble_eq_true rfl)
theorem rX11_isCounting {M : Mm} {a0 : Nat} {a1 : Int32} {r9 : Int32} (h : fX11_isCounting M a0 a1 = some r9) : ∃ fs, M[a0]? = some (.inr (11, fs)) := by
  unfold fX11_isCounting at h
  obtain ⟨_, e1, _⟩ := ob h
  exact gC_spec e1
theorem ctX11_isCounting (l : Launch) {P : PT} {M : Mm} {a0 : Nat} {a1 : Int32} {r9 : Int32} (h : fX11_isCounting M a0 a1 = some r9) : Ct l yX11_isCounting cX11_isCounting 2 (some .boolean) 1 0 P [.ref (pB P + a0), .int a1] M (some (.int r9)) M :=
  Ct.mk (by decide +kernel) (Nat.le_of_ble_eq_true rfl) (fun p e s m args below meth c hX => wX11_isCounting hX M a0 a1 h)
set_option maxHeartbeats 4000000 in
set_option maxRecDepth 100000 in
theorem wX11_of {p : Program} {l : Launch} {e : Env} {s : State} {m : MethodId} {args : Array Value} {below : List Frame} {meth : Method} {c : Code} {P : PT}  {r9 : Int32} (hX : Cy p s m args c meth cX11_of 3 RX11 "of" (some .int) P)  (M : Mm) (a0 : Nat) (a1 : Int32) (a2 : Int32) (h : fX11_of M a0 a1 a2 = some r9) : Wq p l e s m args below meth c 0 0 (some (.int r9)) M 3 P 0 0 [(0, .ref (pB P + a0)), (1, .int a1), (2, .int a2)] [] M := by
  unfold fX11_of at h
  obtain ⟨_, _, h⟩ := ob h
  have hX0 := hX
  obtain ⟨X, hr, hlk, hnm⟩ := hX0
  have hx := X.1.1
  have hb := X.1.2.1
  intro H locs ls hM hl
  refine lv_aload_n (pc := 0) hx hb dX11_of_0 rfl (lv_at hl 0 rfl) ?_
  obtain ⟨q1, e2, h⟩ := ob h
  refine bz_getQ (pc := 1) X hM fl_RX11_9 e2 dX11_of_1 ?_
  refine lv_sipush (pc := 4) (v := (306 : Int32)) hx hb dX11_of_4 (by decide) ?_
  refine lv_iconst (pc := 7) (v := (5 : Int32)) hx hb dX11_of_7 (by decide) ?_
  refine lv_iload_n (pc := 8) hx hb dX11_of_8 rfl (lv_at hl 1 rfl) ?_
  refine lv_imul (pc := 9) hx hb dX11_of_9 ?_
  refine lv_iadd (pc := 10) hx hb dX11_of_10 ?_
  refine lv_iload_n (pc := 11) hx hb dX11_of_11 rfl (lv_at hl 2 rfl) ?_
  refine lv_iadd (pc := 12) hx hb dX11_of_12 ?_
  obtain ⟨v3, e4, h⟩ := ob h
  refine bz_iald (pc := 13) X hM e4 dX11_of_13 ?_
  obtain rfl := so1 h
  exact bz_iret (pc := 14) X hM hr hlk dX11_of_14 (Nat.le_of_ble_eq_true rfl) (Nat.le_of_ble_eq_true rfl)
theorem rX11_of {M : Mm} {a0 : Nat} {a1 : Int32} {a2 : Int32} {r9 : Int32} (h : fX11_of M a0 a1 a2 = some r9) : ∃ fs, M[a0]? = some (.inr (11, fs)) := by
  unfold fX11_of at h
  obtain ⟨_, e1, _⟩ := ob h
  exact gC_spec e1
theorem ctX11_of (l : Launch) {P : PT} {M : Mm} {a0 : Nat} {a1 : Int32} {a2 : Int32} {r9 : Int32} (h : fX11_of M a0 a1 a2 = some r9) : Ct l yX11_of cX11_of 3 (some .int) 0 0 P [.ref (pB P + a0), .int a1, .int a2] M (some (.int r9)) M :=
  Ct.mk (by decide +kernel) (Nat.le_of_ble_eq_true rfl) (fun p e s m args below meth c hX => wX11_of hX M a0 a1 a2 h)
set_option maxHeartbeats 4000000 in
set_option maxRecDepth 100000 in
theorem wX11_isUnder {p : Program} {l : Launch} {e : Env} {s : State} {m : MethodId} {args : Array Value} {below : List Frame} {meth : Method} {c : Code} {P : PT}  {r9 : Int32} (hX : Cy p s m args c meth cX11_isUnder 2 RX11 "isUnder" (some .boolean) P)  (M : Mm) (a0 : Int32) (a1 : Int32) (h : fX11_isUnder M a0 a1 = some r9) : Wq p l e s m args below meth c 0 0 (some (.int r9)) M 2 P 0 0 [(0, .int a0), (1, .int a1)] [] M := by
  unfold fX11_isUnder at h
  have hX0 := hX
  obtain ⟨X, hr, hlk, hnm⟩ := hX0
  have hx := X.1.1
  have hb := X.1.2.1
  intro H locs ls hM hl
  refine lv_iload_n (pc := 0) hx hb dX11_isUnder_0 rfl (lv_at hl 1 rfl) ?_
  refine lv_if_eq (pc := 1) (tgt := 21) hx hb dX11_isUnder_1 (by decide) (fun hc => ?_) (fun hc => ?_)
  · have h := if_t hc h
    refine lv_iconst (pc := 21) (v := (1 : Int32)) hx hb dX11_isUnder_21 (by decide) ?_
    refine lv_goto (pc := 22) (tgt := 26) hx hb dX11_isUnder_22 (by decide) ?_
    obtain rfl := so1 h
    exact bz_zret (pc := 26) X hM hr hlk (by decide) dX11_isUnder_26 (Nat.le_of_ble_eq_true rfl) (Nat.le_of_ble_eq_true rfl)
  · have h := if_f hc h
    refine lv_iload_n (pc := 4) hx hb dX11_isUnder_4 rfl (lv_at hl 0 rfl) ?_
    refine lv_iload_n (pc := 5) hx hb dX11_isUnder_5 rfl (lv_at hl 1 rfl) ?_
    refine lv_icmp_eq (pc := 6) (tgt := 21) hx hb dX11_isUnder_6 (by decide) (fun hc => ?_) (fun hc => ?_)
    · have h := if_t hc h
      refine lv_iconst (pc := 21) (v := (1 : Int32)) hx hb dX11_isUnder_21 (by decide) ?_
      refine lv_goto (pc := 22) (tgt := 26) hx hb dX11_isUnder_22 (by decide) ?_
      obtain rfl := so1 h
      exact bz_zret (pc := 26) X hM hr hlk (by decide) dX11_isUnder_26 (Nat.le_of_ble_eq_true rfl) (Nat.le_of_ble_eq_true rfl)
    · have h := if_f hc h
      refine lv_iload_n (pc := 9) hx hb dX11_isUnder_9 rfl (lv_at hl 1 rfl) ?_
      refine lv_bipush (pc := 10) (v := (6 : Int32)) hx hb dX11_isUnder_10 (by decide) ?_
      refine lv_icmp_ne (pc := 12) (tgt := 25) hx hb dX11_isUnder_12 (by decide) (fun hc => ?_) (fun hc => ?_)
      · have h := if_f hc h
        refine lv_iconst (pc := 25) (v := (0 : Int32)) hx hb dX11_isUnder_25 (by decide) ?_
        obtain rfl := so1 h
        exact bz_zret (pc := 26) X hM hr hlk (by decide) dX11_isUnder_26 (Nat.le_of_ble_eq_true rfl) (Nat.le_of_ble_eq_true rfl)
      · have h := if_t hc h
        refine lv_iload_n (pc := 15) hx hb dX11_isUnder_15 rfl (lv_at hl 0 rfl) ?_
        refine lv_bipush (pc := 16) (v := (7 : Int32)) hx hb dX11_isUnder_16 (by decide) ?_
        refine lv_icmp_ne (pc := 18) (tgt := 25) hx hb dX11_isUnder_18 (by decide) (fun hc => ?_) (fun hc => ?_)
        · have h := if_f hc h
          refine lv_iconst (pc := 25) (v := (0 : Int32)) hx hb dX11_isUnder_25 (by decide) ?_
          obtain rfl := so1 h
          exact bz_zret (pc := 26) X hM hr hlk (by decide) dX11_isUnder_26 (Nat.le_of_ble_eq_true rfl) (Nat.le_of_ble_eq_true rfl)
        · have h := if_t hc h
          refine lv_iconst (pc := 21) (v := (1 : Int32)) hx hb dX11_isUnder_21 (by decide) ?_
          refine lv_goto (pc := 22) (tgt := 26) hx hb dX11_isUnder_22 (by decide) ?_
          obtain rfl := so1 h
          exact bz_zret (pc := 26) X hM hr hlk (by decide) dX11_isUnder_26 (Nat.le_of_ble_eq_true rfl) (Nat.le_of_ble_eq_true rfl)
theorem ctX11_isUnder (l : Launch) {P : PT} {M : Mm} {a0 : Int32} {a1 : Int32} {r9 : Int32} (h : fX11_isUnder M a0 a1 = some r9) : Ct l yX11_isUnder cX11_isUnder 2 (some .boolean) 0 0 P [.int a0, .int a1] M (some (.int r9)) M :=
  Ct.mk (by decide +kernel) (Nat.le_of_ble_eq_true rfl) (fun p e s m args below meth c hX => wX11_isUnder hX M a0 a1 h)
