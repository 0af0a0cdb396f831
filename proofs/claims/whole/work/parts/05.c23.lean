set_option maxHeartbeats 4000000 in
set_option maxRecDepth 100000 in
theorem wX11_tells {p : Program} {l : Launch} {e : Env} {s : State} {m : MethodId} {args : Array Value} {below : List Frame} {meth : Method} {c : Code} {P : PT}  {r9 : Int32} {M9 : Mm} (hX : Cy p s m args c meth cX11_tells 3 RX11 "tells" (some .int) P)  (M : Mm) (a0 : Nat) (a1 : Int32) (h : fX11_tells M a0 a1 = some (r9, M9)) : Wq p l e s m args below meth c 8 0 (some (.int r9)) M9 3 P 0 0 [(0, .ref (pB P + a0)), (1, .int a1)] [] M := by
  unfold fX11_tells at h
  obtain ⟨_, _, h⟩ := ob h
  have hX0 := hX
  obtain ⟨X, hr, hlk, hnm⟩ := hX0
  have hx := X.1.1
  have hb := X.1.2.1
  intro H locs ls hM hl
  refine lv_aload_n (pc := 0) hx hb dX11_tells_0 rfl (lv_at hl 0 rfl) ?_
  obtain ⟨v1, e2, h⟩ := ob h
  refine bz_getI (pc := 1) X hM fl_RX11_328 e2 dX11_tells_1 ?_
  refine lv_iconst (pc := 4) (v := (3 : Int32)) hx hb dX11_tells_4 (by decide) ?_
  refine lv_icmp_ne (pc := 5) (tgt := 28) hx hb dX11_tells_5 (by decide) (fun hc => ?_) (fun hc => ?_)
  · have h := if_f hc h
    refine lv_aload_n (pc := 28) hx hb dX11_tells_28 rfl (lv_at hl 0 rfl) ?_
    obtain ⟨v3, e4, h⟩ := ob h
    refine bz_getI (pc := 29) X hM fl_RX11_328 e4 dX11_tells_29 ?_
    refine lv_bipush (pc := 32) (v := (7 : Int32)) hx hb dX11_tells_32 (by decide) ?_
    refine lv_icmp_ne (pc := 34) (tgt := 57) hx hb dX11_tells_34 (by decide) (fun hc => ?_) (fun hc => ?_)
    · have h := if_f hc h
      refine lv_aload_n (pc := 57) hx hb dX11_tells_57 rfl (lv_at hl 0 rfl) ?_
      obtain ⟨v5, e6, h⟩ := ob h
      refine bz_getI (pc := 58) X hM fl_RX11_328 e6 dX11_tells_58 ?_
      refine lv_bipush (pc := 61) (v := (6 : Int32)) hx hb dX11_tells_61 (by decide) ?_
      refine lv_icmp_ne (pc := 63) (tgt := 74) hx hb dX11_tells_63 (by decide) (fun hc => ?_) (fun hc => ?_)
      · have h := if_f hc h
        refine lv_aload_n (pc := 74) hx hb dX11_tells_74 rfl (lv_at hl 0 rfl) ?_
        refine lv_iload_n (pc := 75) hx hb dX11_tells_75 rfl (lv_at hl 1 rfl) ?_
        obtain ⟨v8, M9, e7, h⟩ := ob2 h
        obtain ⟨fs10, hb11⟩ := (rX11_plainTells e7)
        refine bz_callV1 (pc := 76) (As := [.int a1]) (rest := []) X hM hl.1 k_RX11_351 (ctX11_plainTells l e7) rfl hb11 rfl rfl ⟨(Nat.le_of_ble_eq_true rfl), (Nat.le_of_ble_eq_true rfl)⟩ (Nat.le_of_ble_eq_true rfl) ⟨(Nat.le_of_ble_eq_true rfl), (Nat.le_of_ble_eq_true rfl)⟩ dX11_tells_76 (fun H locs hM => ?_)
        obtain ⟨rfl, rfl⟩ := so2 h
        exact bz_iret (pc := 79) X hM hr hlk dX11_tells_79 (Nat.le_of_ble_eq_true rfl) (Nat.le_of_ble_eq_true rfl)
      · have h := if_t hc h
        refine lv_aload_n (pc := 66) hx hb dX11_tells_66 rfl (lv_at hl 0 rfl) ?_
        refine lv_iload_n (pc := 67) hx hb dX11_tells_67 rfl (lv_at hl 1 rfl) ?_
        obtain ⟨v13, M14, e12, h⟩ := ob2 h
        obtain ⟨fs15, hb16⟩ := (rX11_slidTells e12)
        refine bz_callV1 (pc := 68) (As := [.int a1]) (rest := []) X hM hl.1 k_RX11_354 (ctX11_slidTells l e12) rfl hb16 rfl rfl ⟨(Nat.le_of_ble_eq_true rfl), (Nat.le_of_ble_eq_true rfl)⟩ (Nat.le_of_ble_eq_true rfl) ⟨(Nat.le_of_ble_eq_true rfl), (Nat.le_of_ble_eq_true rfl)⟩ dX11_tells_68 (fun H locs hM => ?_)
        refine lv_goto (pc := 71) (tgt := 79) hx hb dX11_tells_71 (by decide) ?_
        obtain ⟨rfl, rfl⟩ := so2 h
        exact bz_iret (pc := 79) X hM hr hlk dX11_tells_79 (Nat.le_of_ble_eq_true rfl) (Nat.le_of_ble_eq_true rfl)
    · have h := if_t hc h
      refine lv_aload_n (pc := 37) hx hb dX11_tells_37 rfl (lv_at hl 0 rfl) ?_
      refine lv_bipush (pc := 38) (v := (81 : Int32)) hx hb dX11_tells_38 (by decide) ?_
      obtain ⟨M18, e17, h⟩ := ob h
      obtain ⟨fs19, hb20⟩ := (rX11_begins e17)
      refine bz_callV0 (pc := 40) (As := [.int (81 : Int32)]) (rest := []) X hM hl.1 k_RX11_322 (ctX11_begins l e17) rfl hb20 rfl rfl ⟨(Nat.le_of_ble_eq_true rfl), (Nat.le_of_ble_eq_true rfl)⟩ (Nat.le_of_ble_eq_true rfl) ⟨(Nat.le_of_ble_eq_true rfl), (Nat.le_of_ble_eq_true rfl)⟩ dX11_tells_40 (fun H locs hM => ?_)
      refine lv_aload_n (pc := 43) hx hb dX11_tells_43 rfl (lv_at hl 0 rfl) ?_
      refine lv_iload_n (pc := 44) hx hb dX11_tells_44 rfl (lv_at hl 1 rfl) ?_
      obtain ⟨v22, M23, e21, h⟩ := ob2 h
      obtain ⟨fs24, hb25⟩ := (rX11_bounds e21)
      refine bz_callV1 (pc := 45) (As := [.int a1]) (rest := []) X hM hl.1 k_RX11_334 (ctX11_bounds l e21) rfl hb25 rfl rfl ⟨(Nat.le_of_ble_eq_true rfl), (Nat.le_of_ble_eq_true rfl)⟩ (Nat.le_of_ble_eq_true rfl) ⟨(Nat.le_of_ble_eq_true rfl), (Nat.le_of_ble_eq_true rfl)⟩ dX11_tells_45 (fun H locs hM => ?_)
      refine lv_istore_n (pc := 48) (lv' := [(2, .int v22), (0, .ref (pB P + a0)), (1, .int a1)]) hx hb dX11_tells_48 rfl hl (by decide) rfl (fun ls hl => ?_)
      refine lv_iload_n (pc := 49) hx hb dX11_tells_49 rfl (lv_at hl 0 rfl) ?_
      refine lv_aload_n (pc := 50) hx hb dX11_tells_50 rfl (lv_at hl 1 rfl) ?_
      refine lv_iload_n (pc := 51) hx hb dX11_tells_51 rfl (lv_at hl 2 rfl) ?_
      obtain ⟨v27, M28, e26, h⟩ := ob2 h
      obtain ⟨fs29, hb30⟩ := (rX11_slidTells e26)
      refine bz_callV1 (pc := 52) (As := [.int a1]) (rest := [.int v22]) X hM hl.1 k_RX11_354 (ctX11_slidTells l e26) rfl hb30 rfl rfl ⟨(Nat.le_of_ble_eq_true rfl), (Nat.le_of_ble_eq_true rfl)⟩ (Nat.le_of_ble_eq_true rfl) ⟨(Nat.le_of_ble_eq_true rfl), (Nat.le_of_ble_eq_true rfl)⟩ dX11_tells_52 (fun H locs hM => ?_)
      refine lv_iadd (pc := 55) hx hb dX11_tells_55 ?_
      obtain ⟨rfl, rfl⟩ := so2 h
      exact bz_iret (pc := 56) X hM hr hlk dX11_tells_56 (Nat.le_of_ble_eq_true rfl) (Nat.le_of_ble_eq_true rfl)
  · have h := if_t hc h
    refine lv_aload_n (pc := 8) hx hb dX11_tells_8 rfl (lv_at hl 0 rfl) ?_
    refine lv_bipush (pc := 9) (v := (40 : Int32)) hx hb dX11_tells_9 (by decide) ?_
    obtain ⟨M32, e31, h⟩ := ob h
    obtain ⟨fs33, hb34⟩ := (rX11_begins e31)
    refine bz_callV0 (pc := 11) (As := [.int (40 : Int32)]) (rest := []) X hM hl.1 k_RX11_322 (ctX11_begins l e31) rfl hb34 rfl rfl ⟨(Nat.le_of_ble_eq_true rfl), (Nat.le_of_ble_eq_true rfl)⟩ (Nat.le_of_ble_eq_true rfl) ⟨(Nat.le_of_ble_eq_true rfl), (Nat.le_of_ble_eq_true rfl)⟩ dX11_tells_11 (fun H locs hM => ?_)
    refine lv_aload_n (pc := 14) hx hb dX11_tells_14 rfl (lv_at hl 0 rfl) ?_
    refine lv_iconst (pc := 15) (v := (2 : Int32)) hx hb dX11_tells_15 (by decide) ?_
    obtain ⟨v36, M37, e35, h⟩ := ob2 h
    obtain ⟨fs38, hb39⟩ := (rX11_meets_ e35)
    refine bz_callV1 (pc := 16) (As := [.int (2 : Int32)]) (rest := []) X hM hl.1 k_RX11_348 (ctX11_meets_ l e35) rfl hb39 rfl rfl ⟨(Nat.le_of_ble_eq_true rfl), (Nat.le_of_ble_eq_true rfl)⟩ (Nat.le_of_ble_eq_true rfl) ⟨(Nat.le_of_ble_eq_true rfl), (Nat.le_of_ble_eq_true rfl)⟩ dX11_tells_16 (fun H locs hM => ?_)
    refine lv_istore_n (pc := 19) (lv' := [(2, .int v36), (0, .ref (pB P + a0)), (1, .int a1)]) hx hb dX11_tells_19 rfl hl (by decide) rfl (fun ls hl => ?_)
    refine lv_iload_n (pc := 20) hx hb dX11_tells_20 rfl (lv_at hl 0 rfl) ?_
    refine lv_aload_n (pc := 21) hx hb dX11_tells_21 rfl (lv_at hl 1 rfl) ?_
    refine lv_iload_n (pc := 22) hx hb dX11_tells_22 rfl (lv_at hl 2 rfl) ?_
    obtain ⟨v41, M42, e40, h⟩ := ob2 h
    obtain ⟨fs43, hb44⟩ := (rX11_plainTells e40)
    refine bz_callV1 (pc := 23) (As := [.int a1]) (rest := [.int v36]) X hM hl.1 k_RX11_351 (ctX11_plainTells l e40) rfl hb44 rfl rfl ⟨(Nat.le_of_ble_eq_true rfl), (Nat.le_of_ble_eq_true rfl)⟩ (Nat.le_of_ble_eq_true rfl) ⟨(Nat.le_of_ble_eq_true rfl), (Nat.le_of_ble_eq_true rfl)⟩ dX11_tells_23 (fun H locs hM => ?_)
    refine lv_isub (pc := 26) hx hb dX11_tells_26 ?_
    obtain ⟨rfl, rfl⟩ := so2 h
    exact bz_iret (pc := 27) X hM hr hlk dX11_tells_27 (Nat.le_of_ble_eq_true rfl) (Nat.le_of_ble_eq_true rfl)
theorem rX11_tells {M : Mm} {a0 : Nat} {a1 : Int32} {r9 : Int32 × Mm} (h : fX11_tells M a0 a1 = some r9) : ∃ fs, M[a0]? = some (.inr (11, fs)) := by
  unfold fX11_tells at h
  obtain ⟨_, e1, _⟩ := ob h
  exact gC_spec e1
theorem ctX11_tells (l : Launch) {P : PT} {M : Mm} {a0 : Nat} {a1 : Int32} {r9 : Int32} {M9 : Mm} (h : fX11_tells M a0 a1 = some (r9, M9)) : Ct l yX11_tells cX11_tells 3 (some .int) 8 0 P [.ref (pB P + a0), .int a1] M (some (.int r9)) M9 :=
  Ct.mk (by decide +kernel) (Nat.le_of_ble_eq_true rfl) (fun p e s m args below meth c hX => wX11_tells hX M a0 a1 h)
set_option maxHeartbeats 4000000 in
set_option maxRecDepth 100000 in
theorem wjX11_voice_20 {p : Program} {l : Launch} {e : Env} {s : State} {m : MethodId} {args : Array Value} {below : List Frame} {meth : Method} {c : Code} {P : PT}  {r9 : Int32} {M9 : Mm} (hX : Cy p s m args c meth cX11_voice 4 RX11 "voice" (some .int) P)   (M : Mm) (x0 : Nat)  (h : jX11_voice_20 M x0 = some (r9, M9)) : Wq p l e s m args below meth c 9 0 (some (.int r9)) M9 4 P 0 20 [(0, .ref (pB P + x0))] [] M := by
  unfold jX11_voice_20 at h
  have hX0 := hX
  obtain ⟨X, hr, hlk, hnm⟩ := hX0
  have hx := X.1.1
  have hb := X.1.2.1
  intro H locs ls hM hl
  refine lv_aload_n (pc := 20) hx hb dX11_voice_20 rfl (lv_at hl 0 rfl) ?_
  refine lv_iconst (pc := 21) (v := (1 : Int32)) hx hb dX11_voice_21 (by decide) ?_
  obtain ⟨v2, M3, e1, h⟩ := ob2 h
  obtain ⟨fs4, hb5⟩ := (rX11_error e1)
  refine bz_callV1 (pc := 22) (As := [.int (1 : Int32)]) (rest := []) X hM hl.1 k_RX11_73 (ctX11_error l e1) rfl hb5 rfl rfl ⟨(Nat.le_of_ble_eq_true rfl), (Nat.le_of_ble_eq_true rfl)⟩ (Nat.le_of_ble_eq_true rfl) ⟨(Nat.le_of_ble_eq_true rfl), (Nat.le_of_ble_eq_true rfl)⟩ dX11_voice_22 (fun H locs hM => ?_)
  obtain ⟨rfl, rfl⟩ := so2 h
  exact bz_iret (pc := 25) X hM hr hlk dX11_voice_25 (Nat.le_of_ble_eq_true rfl) (Nat.le_of_ble_eq_true rfl)
set_option maxHeartbeats 4000000 in
set_option maxRecDepth 100000 in
theorem wX11_voice {p : Program} {l : Launch} {e : Env} {s : State} {m : MethodId} {args : Array Value} {below : List Frame} {meth : Method} {c : Code} {P : PT}  {r9 : Int32} {M9 : Mm} (hX : Cy p s m args c meth cX11_voice 4 RX11 "voice" (some .int) P)  (M : Mm) (a0 : Nat) (a1 : Int32) (a2 : Int32) (a3 : Int32) (h : fX11_voice M a0 a1 a2 a3 = some (r9, M9)) : Wq p l e s m args below meth c 9 0 (some (.int r9)) M9 4 P 0 0 [(0, .ref (pB P + a0)), (1, .int a1), (2, .int a2), (3, .int a3)] [] M := by
  unfold fX11_voice at h
  obtain ⟨_, _, h⟩ := ob h
  have hX0 := hX
  obtain ⟨X, hr, hlk, hnm⟩ := hX0
  have hx := X.1.1
  have hb := X.1.2.1
  intro H locs ls hM hl
  refine lv_aload_n (pc := 0) hx hb dX11_voice_0 rfl (lv_at hl 0 rfl) ?_
  refine lv_iload_n (pc := 1) hx hb dX11_voice_1 rfl (lv_at hl 1 rfl) ?_
  obtain ⟨v2, e1, h⟩ := ob h
  obtain ⟨fs3, hb4⟩ := (rX11_isCounting e1)
  refine bz_callV1 (pc := 2) (As := [.int a1]) (rest := []) X hM hl.1 k_RX11_219 (ctX11_isCounting l e1) rfl hb4 rfl rfl ⟨(Nat.le_of_ble_eq_true rfl), (Nat.le_of_ble_eq_true rfl)⟩ (Nat.le_of_ble_eq_true rfl) ⟨(Nat.le_of_ble_eq_true rfl), (Nat.le_of_ble_eq_true rfl)⟩ dX11_voice_2 (fun H locs hM => ?_)
  refine lv_if_eq (pc := 5) (tgt := 20) hx hb dX11_voice_5 (by decide) (fun hc => ?_) (fun hc => ?_)
  · have h := if_t hc h
    exact wjX11_voice_20 hX _ _ h H locs ls hM (lv_sub hl [0] rfl)
  · have h := if_f hc h
    refine lv_iload_n (pc := 8) hx hb dX11_voice_8 rfl (lv_at hl 2 rfl) ?_
    refine lv_i2l (pc := 9) (v := ((a2).toInt64)) hx hb dX11_voice_9 rfl ?_
    refine lv_lconst (pc := 10) (v := (0 : Int64)) hx hb dX11_voice_10 (by decide) ?_
    refine lv_ldc2 (pc := 11) (v := (3 : Int64)) hx hb X.1.2.2.2.1 (X.1.2.2.2.2 _ g_1392) dX11_voice_11 ?_
    obtain ⟨v6, e5, h⟩ := ob h
    refine bz_callS1 (pc := 14) (As := [.long ((a2).toInt64), .long (0 : Int64), .long (3 : Int64)]) (rest := []) X hM hl.1 k_RX11_57 (ctX11_in l e5) rfl rfl ⟨(Nat.le_of_ble_eq_true rfl), (Nat.le_of_ble_eq_true rfl)⟩ (Nat.le_of_ble_eq_true rfl) ⟨(Nat.le_of_ble_eq_true rfl), (Nat.le_of_ble_eq_true rfl)⟩ dX11_voice_14 (fun H locs hM => ?_)
    refine lv_if_ne (pc := 17) (tgt := 26) hx hb dX11_voice_17 (by decide) (fun hc => ?_) (fun hc => ?_)
    · have h := if_f hc h
      refine lv_aload_n (pc := 26) hx hb dX11_voice_26 rfl (lv_at hl 0 rfl) ?_
      refine lv_iconst (pc := 27) (v := (0 : Int32)) hx hb dX11_voice_27 (by decide) ?_
      obtain ⟨M7, e8, h⟩ := ob h
      refine bz_putI (pc := 28) X hM fp_RX11_319 (Or.inl rfl) e8 dX11_voice_28 (fun H locs hM => ?_)
      refine lv_aload_n (pc := 31) hx hb dX11_voice_31 rfl (lv_at hl 0 rfl) ?_
      refine lv_aload_n (pc := 32) hx hb dX11_voice_32 rfl (lv_at hl 0 rfl) ?_
      refine lv_iload_n (pc := 33) hx hb dX11_voice_33 rfl (lv_at hl 1 rfl) ?_
      refine lv_iconst (pc := 34) (v := (0 : Int32)) hx hb dX11_voice_34 (by decide) ?_
      obtain ⟨v10, e9, h⟩ := ob h
      obtain ⟨fs11, hb12⟩ := (rX11_of e9)
      refine bz_callV1 (pc := 35) (As := [.int a1, .int (0 : Int32)]) (rest := [.ref (pB P + a0)]) X hM hl.1 k_RX11_222 (ctX11_of l e9) rfl hb12 rfl rfl ⟨(Nat.le_of_ble_eq_true rfl), (Nat.le_of_ble_eq_true rfl)⟩ (Nat.le_of_ble_eq_true rfl) ⟨(Nat.le_of_ble_eq_true rfl), (Nat.le_of_ble_eq_true rfl)⟩ dX11_voice_35 (fun H locs hM => ?_)
      obtain ⟨M13, e14, h⟩ := ob h
      refine bz_putI (pc := 38) X hM fp_RX11_328 (Or.inl rfl) e14 dX11_voice_38 (fun H locs hM => ?_)
      refine lv_aload_n (pc := 41) hx hb dX11_voice_41 rfl (lv_at hl 0 rfl) ?_
      refine lv_iload_n (pc := 42) hx hb dX11_voice_42 rfl (lv_at hl 1 rfl) ?_
      obtain ⟨M15, e16, h⟩ := ob h
      refine bz_putI (pc := 43) X hM fp_RX11_325 (Or.inl rfl) e16 dX11_voice_43 (fun H locs hM => ?_)
      refine lv_aload_n (pc := 46) hx hb dX11_voice_46 rfl (lv_at hl 0 rfl) ?_
      refine lv_aload_n (pc := 47) hx hb dX11_voice_47 rfl (lv_at hl 0 rfl) ?_
      refine lv_iload_n (pc := 48) hx hb dX11_voice_48 rfl (lv_at hl 1 rfl) ?_
      refine lv_iconst (pc := 49) (v := (2 : Int32)) hx hb dX11_voice_49 (by decide) ?_
      obtain ⟨v18, e17, h⟩ := ob h
      obtain ⟨fs19, hb20⟩ := (rX11_of e17)
      refine bz_callV1 (pc := 50) (As := [.int a1, .int (2 : Int32)]) (rest := [.ref (pB P + a0)]) X hM hl.1 k_RX11_222 (ctX11_of l e17) rfl hb20 rfl rfl ⟨(Nat.le_of_ble_eq_true rfl), (Nat.le_of_ble_eq_true rfl)⟩ (Nat.le_of_ble_eq_true rfl) ⟨(Nat.le_of_ble_eq_true rfl), (Nat.le_of_ble_eq_true rfl)⟩ dX11_voice_50 (fun H locs hM => ?_)
      obtain ⟨M21, e22, h⟩ := ob h
      refine bz_putI (pc := 53) X hM fp_RX11_342 (Or.inl rfl) e22 dX11_voice_53 (fun H locs hM => ?_)
      refine lv_iload_n (pc := 56) hx hb dX11_voice_56 rfl (lv_at hl 2 rfl) ?_
      refine lv_if_ne (pc := 57) (tgt := 68) hx hb dX11_voice_57 (by decide) (fun hc => ?_) (fun hc => ?_)
      · have h := if_f hc h
        refine lv_iload_n (pc := 68) hx hb dX11_voice_68 rfl (lv_at hl 2 rfl) ?_
        refine lv_iconst (pc := 69) (v := (1 : Int32)) hx hb dX11_voice_69 (by decide) ?_
        refine lv_icmp_ne (pc := 70) (tgt := 81) hx hb dX11_voice_70 (by decide) (fun hc => ?_) (fun hc => ?_)
        · have h := if_f hc h
          refine lv_iload_n (pc := 81) hx hb dX11_voice_81 rfl (lv_at hl 2 rfl) ?_
          refine lv_iconst (pc := 82) (v := (2 : Int32)) hx hb dX11_voice_82 (by decide) ?_
          refine lv_icmp_ne (pc := 83) (tgt := 94) hx hb dX11_voice_83 (by decide) (fun hc => ?_) (fun hc => ?_)
          · have h := if_f hc h
            refine lv_aload_n (pc := 94) hx hb dX11_voice_94 rfl (lv_at hl 0 rfl) ?_
            refine lv_iload_n (pc := 95) hx hb dX11_voice_95 rfl (lv_at hl 3 rfl) ?_
            obtain ⟨v24, M25, e23, h⟩ := ob2 h
            obtain ⟨fs26, hb27⟩ := (rX11_tells e23)
            refine bz_callV1 (pc := 96) (As := [.int a3]) (rest := []) X hM hl.1 k_RX11_357 (ctX11_tells l e23) rfl hb27 rfl rfl ⟨(Nat.le_of_ble_eq_true rfl), (Nat.le_of_ble_eq_true rfl)⟩ (Nat.le_of_ble_eq_true rfl) ⟨(Nat.le_of_ble_eq_true rfl), (Nat.le_of_ble_eq_true rfl)⟩ dX11_voice_96 (fun H locs hM => ?_)
            obtain ⟨rfl, rfl⟩ := so2 h
            exact bz_iret (pc := 99) X hM hr hlk dX11_voice_99 (Nat.le_of_ble_eq_true rfl) (Nat.le_of_ble_eq_true rfl)
          · have h := if_t hc h
            refine lv_aload_n (pc := 86) hx hb dX11_voice_86 rfl (lv_at hl 0 rfl) ?_
            refine lv_iload_n (pc := 87) hx hb dX11_voice_87 rfl (lv_at hl 3 rfl) ?_
            obtain ⟨v29, M30, e28, h⟩ := ob2 h
            obtain ⟨fs31, hb32⟩ := (rX11_bounds e28)
            refine bz_callV1 (pc := 88) (As := [.int a3]) (rest := []) X hM hl.1 k_RX11_334 (ctX11_bounds l e28) rfl hb32 rfl rfl ⟨(Nat.le_of_ble_eq_true rfl), (Nat.le_of_ble_eq_true rfl)⟩ (Nat.le_of_ble_eq_true rfl) ⟨(Nat.le_of_ble_eq_true rfl), (Nat.le_of_ble_eq_true rfl)⟩ dX11_voice_88 (fun H locs hM => ?_)
            refine lv_goto (pc := 91) (tgt := 99) hx hb dX11_voice_91 (by decide) ?_
            obtain ⟨rfl, rfl⟩ := so2 h
            exact bz_iret (pc := 99) X hM hr hlk dX11_voice_99 (Nat.le_of_ble_eq_true rfl) (Nat.le_of_ble_eq_true rfl)
        · have h := if_t hc h
          refine lv_aload_n (pc := 73) hx hb dX11_voice_73 rfl (lv_at hl 0 rfl) ?_
          refine lv_iload_n (pc := 74) hx hb dX11_voice_74 rfl (lv_at hl 3 rfl) ?_
          obtain ⟨v34, M35, e33, h⟩ := ob2 h
          obtain ⟨fs36, hb37⟩ := (rX11_meets_ e33)
          refine bz_callV1 (pc := 75) (As := [.int a3]) (rest := []) X hM hl.1 k_RX11_348 (ctX11_meets_ l e33) rfl hb37 rfl rfl ⟨(Nat.le_of_ble_eq_true rfl), (Nat.le_of_ble_eq_true rfl)⟩ (Nat.le_of_ble_eq_true rfl) ⟨(Nat.le_of_ble_eq_true rfl), (Nat.le_of_ble_eq_true rfl)⟩ dX11_voice_75 (fun H locs hM => ?_)
          refine lv_goto (pc := 78) (tgt := 99) hx hb dX11_voice_78 (by decide) ?_
          obtain ⟨rfl, rfl⟩ := so2 h
          exact bz_iret (pc := 99) X hM hr hlk dX11_voice_99 (Nat.le_of_ble_eq_true rfl) (Nat.le_of_ble_eq_true rfl)
      · have h := if_t hc h
        refine lv_aload_n (pc := 60) hx hb dX11_voice_60 rfl (lv_at hl 0 rfl) ?_
        refine lv_iload_n (pc := 61) hx hb dX11_voice_61 rfl (lv_at hl 3 rfl) ?_
        obtain ⟨v39, M40, e38, h⟩ := ob2 h
        obtain ⟨fs41, hb42⟩ := (rX11_rings_ e38)
        refine bz_callV1 (pc := 62) (As := [.int a3]) (rest := []) X hM hl.1 k_RX11_337 (ctX11_rings_ l e38) rfl hb42 rfl rfl ⟨(Nat.le_of_ble_eq_true rfl), (Nat.le_of_ble_eq_true rfl)⟩ (Nat.le_of_ble_eq_true rfl) ⟨(Nat.le_of_ble_eq_true rfl), (Nat.le_of_ble_eq_true rfl)⟩ dX11_voice_62 (fun H locs hM => ?_)
        refine lv_goto (pc := 65) (tgt := 99) hx hb dX11_voice_65 (by decide) ?_
        obtain ⟨rfl, rfl⟩ := so2 h
        exact bz_iret (pc := 99) X hM hr hlk dX11_voice_99 (Nat.le_of_ble_eq_true rfl) (Nat.le_of_ble_eq_true rfl)
    · have h := if_t hc h
      exact wjX11_voice_20 hX _ _ h H locs ls hM (lv_sub hl [0] rfl)
theorem rX11_voice {M : Mm} {a0 : Nat} {a1 : Int32} {a2 : Int32} {a3 : Int32} {r9 : Int32 × Mm} (h : fX11_voice M a0 a1 a2 a3 = some r9) : ∃ fs, M[a0]? = some (.inr (11, fs)) := by
  unfold fX11_voice at h
  obtain ⟨_, e1, _⟩ := ob h
  exact gC_spec e1
theorem ctX11_voice (l : Launch) {P : PT} {M : Mm} {a0 : Nat} {a1 : Int32} {a2 : Int32} {a3 : Int32} {r9 : Int32} {M9 : Mm} (h : fX11_voice M a0 a1 a2 a3 = some (r9, M9)) : Ct l yX11_voice cX11_voice 4 (some .int) 9 0 P [.ref (pB P + a0), .int a1, .int a2, .int a3] M (some (.int r9)) M9 :=
  Ct.mk (by decide +kernel) (Nat.le_of_ble_eq_true rfl) (fun p e s m args below meth c hX => wX11_voice hX M a0 a1 a2 a3 h)
set_option maxHeartbeats 4000000 in
set_option maxRecDepth 100000 in
theorem wX10_trace {p : Program} {l : Launch} {e : Env} {s : State} {m : MethodId} {args : Array Value} {below : List Frame} {meth : Method} {c : Code} {P : PT}  {r9 : Int32} {M9 : Mm} (hX : Cy p s m args c meth cX10_trace 2 RX10 "trace" (some .int) P)  (M : Mm) (a0 : Nat) (a1 : Int32) (h : fX10_trace M a0 a1 = some (r9, M9)) : Wq p l e s m args below meth c 3 0 (some (.int r9)) M9 2 P 0 0 [(0, .ref (pB P + a0)), (1, .int a1)] [] M := by
  unfold fX10_trace at h
  obtain ⟨_, _, h⟩ := ob h
  have hX0 := hX
  obtain ⟨X, hr, hlk, hnm⟩ := hX0
  have hx := X.1.1
  have hb := X.1.2.1
  intro H locs ls hM hl
  refine lv_iload_n (pc := 0) hx hb dX10_trace_0 rfl (lv_at hl 1 rfl) ?_
  refine lv_iconst (pc := 1) (v := (0 : Int32)) hx hb dX10_trace_1 (by decide) ?_
  refine lv_aload_n (pc := 2) hx hb dX10_trace_2 rfl (lv_at hl 0 rfl) ?_
  obtain ⟨q1, e2, h⟩ := ob h
  refine bz_getQ (pc := 3) X hM fl_RX10_63 e2 dX10_trace_3 ?_
  obtain ⟨q3, e4, h⟩ := ob h
  refine bz_getQ (pc := 6) X hM fl_RX10_369 e4 dX10_trace_6 ?_
  obtain ⟨v6, e5, h⟩ := ob h
  obtain ⟨fs7, hb8⟩ := (rX3_size e5)
  refine bz_callV1 (pc := 9) (As := []) (rest := [.int (0 : Int32), .int a1]) X hM hl.1 k_RX10_96 (ctX3_size l e5) rfl hb8 rfl rfl ⟨(Nat.le_of_ble_eq_true rfl), (Nat.le_of_ble_eq_true rfl)⟩ (Nat.le_of_ble_eq_true rfl) ⟨(Nat.le_of_ble_eq_true rfl), (Nat.le_of_ble_eq_true rfl)⟩ dX10_trace_9 (fun H locs hM => ?_)
  refine lv_iconst (pc := 12) (v := (1 : Int32)) hx hb dX10_trace_12 (by decide) ?_
  refine lv_isub (pc := 13) hx hb dX10_trace_13 ?_
  obtain ⟨v10, e9, h⟩ := ob h
  refine bz_callS1 (pc := 14) (As := [.int a1, .int (0 : Int32), .int (v6 - (1 : Int32))]) (rest := []) X hM hl.1 k_RX10_74 (ctX10_within l e9) rfl rfl ⟨(Nat.le_of_ble_eq_true rfl), (Nat.le_of_ble_eq_true rfl)⟩ (Nat.le_of_ble_eq_true rfl) ⟨(Nat.le_of_ble_eq_true rfl), (Nat.le_of_ble_eq_true rfl)⟩ dX10_trace_14 (fun H locs hM => ?_)
  refine lv_if_ne (pc := 17) (tgt := 26) hx hb dX10_trace_17 (by decide) (fun hc => ?_) (fun hc => ?_)
  · have h := if_f hc h
    refine lv_aload_n (pc := 26) hx hb dX10_trace_26 rfl (lv_at hl 0 rfl) ?_
    obtain ⟨q11, e12, h⟩ := ob h
    refine bz_getQ (pc := 27) X hM fl_RX10_63 e12 dX10_trace_27 ?_
    obtain ⟨q13, e14, h⟩ := ob h
    refine bz_getQ (pc := 30) X hM fl_RX10_369 e14 dX10_trace_30 ?_
    refine lv_iload_n (pc := 33) hx hb dX10_trace_33 rfl (lv_at hl 1 rfl) ?_
    obtain ⟨v16, e15, h⟩ := ob h
    obtain ⟨fs17, hb18⟩ := (rX3_at e15)
    refine bz_callV1 (pc := 34) (As := [.int a1]) (rest := []) X hM hl.1 k_RX10_121 (ctX3_at l e15) rfl hb18 rfl rfl ⟨(Nat.le_of_ble_eq_true rfl), (Nat.le_of_ble_eq_true rfl)⟩ (Nat.le_of_ble_eq_true rfl) ⟨(Nat.le_of_ble_eq_true rfl), (Nat.le_of_ble_eq_true rfl)⟩ dX10_trace_34 (fun H locs hM => ?_)
    obtain ⟨rfl, rfl⟩ := so2 h
    exact bz_iret (pc := 37) X hM hr hlk dX10_trace_37 (Nat.le_of_ble_eq_true rfl) (Nat.le_of_ble_eq_true rfl)
  · have h := if_t hc h
    refine lv_aload_n (pc := 20) hx hb dX10_trace_20 rfl (lv_at hl 0 rfl) ?_
    refine lv_iconst (pc := 21) (v := (2 : Int32)) hx hb dX10_trace_21 (by decide) ?_
    obtain ⟨v20, M21, e19, h⟩ := ob2 h
    obtain ⟨fs22, hb23⟩ := (rX10_error e19)
    refine bz_callV1 (pc := 22) (As := [.int (2 : Int32)]) (rest := []) X hM hl.1 k_RX10_78 (ctX10_error l e19) rfl hb23 rfl rfl ⟨(Nat.le_of_ble_eq_true rfl), (Nat.le_of_ble_eq_true rfl)⟩ (Nat.le_of_ble_eq_true rfl) ⟨(Nat.le_of_ble_eq_true rfl), (Nat.le_of_ble_eq_true rfl)⟩ dX10_trace_22 (fun H locs hM => ?_)
    obtain ⟨rfl, rfl⟩ := so2 h
    exact bz_iret (pc := 25) X hM hr hlk dX10_trace_25 (Nat.le_of_ble_eq_true rfl) (Nat.le_of_ble_eq_true rfl)
theorem rX10_trace {M : Mm} {a0 : Nat} {a1 : Int32} {r9 : Int32 × Mm} (h : fX10_trace M a0 a1 = some r9) : ∃ fs, M[a0]? = some (.inr (10, fs)) := by
  unfold fX10_trace at h
  obtain ⟨_, e1, _⟩ := ob h
  exact gC_spec e1
theorem ctX10_trace (l : Launch) {P : PT} {M : Mm} {a0 : Nat} {a1 : Int32} {r9 : Int32} {M9 : Mm} (h : fX10_trace M a0 a1 = some (r9, M9)) : Ct l yX10_trace cX10_trace 2 (some .int) 3 0 P [.ref (pB P + a0), .int a1] M (some (.int r9)) M9 :=
  Ct.mk (by decide +kernel) (Nat.le_of_ble_eq_true rfl) (fun p e s m args below meth c hX => wX10_trace hX M a0 a1 h)
set_option maxHeartbeats 4000000 in
set_option maxRecDepth 100000 in
theorem wX11_trace {p : Program} {l : Launch} {e : Env} {s : State} {m : MethodId} {args : Array Value} {below : List Frame} {meth : Method} {c : Code} {P : PT}  {r9 : Int32} {M9 : Mm} (hX : Cy p s m args c meth cX11_trace 2 RX11 "trace" (some .int) P)  (M : Mm) (a0 : Nat) (a1 : Int32) (h : fX11_trace M a0 a1 = some (r9, M9)) : Wq p l e s m args below meth c 1 0 (some (.int r9)) M9 2 P 0 0 [(0, .ref (pB P + a0)), (1, .int a1)] [] M := by
  unfold fX11_trace at h
  obtain ⟨_, _, h⟩ := ob h
  have hX0 := hX
  obtain ⟨X, hr, hlk, hnm⟩ := hX0
  have hx := X.1.1
  have hb := X.1.2.1
  intro H locs ls hM hl
  refine lv_iload_n (pc := 0) hx hb dX11_trace_0 rfl (lv_at hl 1 rfl) ?_
  refine lv_i2l (pc := 1) (v := ((a1).toInt64)) hx hb dX11_trace_1 rfl ?_
  refine lv_lconst (pc := 2) (v := (0 : Int64)) hx hb dX11_trace_2 (by decide) ?_
  refine lv_aload_n (pc := 3) hx hb dX11_trace_3 rfl (lv_at hl 0 rfl) ?_
  obtain ⟨v1, e2, h⟩ := ob h
  refine bz_getI (pc := 4) X hM fl_RX11_319 e2 dX11_trace_4 ?_
  refine lv_iconst (pc := 7) (v := (1 : Int32)) hx hb dX11_trace_7 (by decide) ?_
  refine lv_isub (pc := 8) hx hb dX11_trace_8 ?_
  refine lv_i2l (pc := 9) (v := (((v1 - (1 : Int32))).toInt64)) hx hb dX11_trace_9 rfl ?_
  obtain ⟨v4, e3, h⟩ := ob h
  refine bz_callS1 (pc := 10) (As := [.long ((a1).toInt64), .long (0 : Int64), .long (((v1 - (1 : Int32))).toInt64)]) (rest := []) X hM hl.1 k_RX11_57 (ctX11_in l e3) rfl rfl ⟨(Nat.le_of_ble_eq_true rfl), (Nat.le_of_ble_eq_true rfl)⟩ (Nat.le_of_ble_eq_true rfl) ⟨(Nat.le_of_ble_eq_true rfl), (Nat.le_of_ble_eq_true rfl)⟩ dX11_trace_10 (fun H locs hM => ?_)
  refine lv_if_eq (pc := 13) (tgt := 25) hx hb dX11_trace_13 (by decide) (fun hc => ?_) (fun hc => ?_)
  · have h := if_t hc h
    refine lv_aload_n (pc := 25) hx hb dX11_trace_25 rfl (lv_at hl 0 rfl) ?_
    refine lv_iconst (pc := 26) (v := (2 : Int32)) hx hb dX11_trace_26 (by decide) ?_
    obtain ⟨v6, M7, e5, h⟩ := ob2 h
    obtain ⟨fs8, hb9⟩ := (rX11_error e5)
    refine bz_callV1 (pc := 27) (As := [.int (2 : Int32)]) (rest := []) X hM hl.1 k_RX11_73 (ctX11_error l e5) rfl hb9 rfl rfl ⟨(Nat.le_of_ble_eq_true rfl), (Nat.le_of_ble_eq_true rfl)⟩ (Nat.le_of_ble_eq_true rfl) ⟨(Nat.le_of_ble_eq_true rfl), (Nat.le_of_ble_eq_true rfl)⟩ dX11_trace_27 (fun H locs hM => ?_)
    obtain ⟨rfl, rfl⟩ := so2 h
    exact bz_iret (pc := 30) X hM hr hlk dX11_trace_30 (Nat.le_of_ble_eq_true rfl) (Nat.le_of_ble_eq_true rfl)
  · have h := if_f hc h
    refine lv_aload_n (pc := 16) hx hb dX11_trace_16 rfl (lv_at hl 0 rfl) ?_
    obtain ⟨q10, e11, h⟩ := ob h
    refine bz_getQ (pc := 17) X hM fl_RX11_53 e11 dX11_trace_17 ?_
    refine lv_iload_n (pc := 20) hx hb dX11_trace_20 rfl (lv_at hl 1 rfl) ?_
    obtain ⟨v12, e13, h⟩ := ob h
    refine bz_iald (pc := 21) X hM e13 dX11_trace_21 ?_
    refine lv_goto (pc := 22) (tgt := 30) hx hb dX11_trace_22 (by decide) ?_
    obtain ⟨rfl, rfl⟩ := so2 h
    exact bz_iret (pc := 30) X hM hr hlk dX11_trace_30 (Nat.le_of_ble_eq_true rfl) (Nat.le_of_ble_eq_true rfl)
theorem rX11_trace {M : Mm} {a0 : Nat} {a1 : Int32} {r9 : Int32 × Mm} (h : fX11_trace M a0 a1 = some r9) : ∃ fs, M[a0]? = some (.inr (11, fs)) := by
  unfold fX11_trace at h
  obtain ⟨_, e1, _⟩ := ob h
  exact gC_spec e1
theorem ctX11_trace (l : Launch) {P : PT} {M : Mm} {a0 : Nat} {a1 : Int32} {r9 : Int32} {M9 : Mm} (h : fX11_trace M a0 a1 = some (r9, M9)) : Ct l yX11_trace cX11_trace 2 (some .int) 1 0 P [.ref (pB P + a0), .int a1] M (some (.int r9)) M9 :=
  Ct.mk (by decide +kernel) (Nat.le_of_ble_eq_true rfl) (fun p e s m args below meth c hX => wX11_trace hX M a0 a1 h)
set_option maxHeartbeats 4000000 in
set_option maxRecDepth 100000 in
theorem wX4_become {p : Program} {l : Launch} {e : Env} {s : State} {m : MethodId} {args : Array Value} {below : List Frame} {meth : Method} {c : Code} {P : PT} {N : Nat}  {M9 : Mm} (hX : Cy p s m args c meth cX4_become 3 RX4 "become" none P)  (M : Mm) (a0 : Nat) (a1 : Int32) (a2 : Int32) (h : fX4_become N M a0 a1 a2 = some M9) : Wq p l e s m args below meth c 2 0 none M9 3 P 0 0 [(0, .ref (pB P + a0)), (1, .int a1), (2, .int a2)] [] M := by
  unfold fX4_become at h
  obtain ⟨_, _, h⟩ := ob h
  have hX0 := hX
  obtain ⟨X, hr, hlk, hnm⟩ := hX0
  have hx := X.1.1
  have hb := X.1.2.1
  intro H locs ls hM hl
  refine lv_aload_n (pc := 0) hx hb dX4_become_0 rfl (lv_at hl 0 rfl) ?_
  refine lv_iload_n (pc := 1) hx hb dX4_become_1 rfl (lv_at hl 1 rfl) ?_
  obtain ⟨M1, e2, h⟩ := ob h
  refine bz_putI (pc := 2) X hM fp_RX4_20 (Or.inl rfl) e2 dX4_become_2 (fun H locs hM => ?_)
  refine lv_aload_n (pc := 5) hx hb dX4_become_5 rfl (lv_at hl 0 rfl) ?_
  obtain ⟨q3, e4, h⟩ := ob h
  refine bz_getQ (pc := 6) X hM fl_RX4_14 e4 dX4_become_6 ?_
  refine lv_iload_n (pc := 9) hx hb dX4_become_9 rfl (lv_at hl 2 rfl) ?_
  refine lv_iconst (pc := 10) (v := (0 : Int32)) hx hb dX4_become_10 (by decide) ?_
  obtain ⟨M6, e5, h⟩ := ob h
  obtain ⟨fs7, hb8⟩ := (rX3_fill e5)
  refine bz_callV0 (pc := 11) (As := [.int a2, .int (0 : Int32)]) (rest := []) X hM hl.1 k_RX4_24 (ctX3_fill l e5) rfl hb8 rfl rfl ⟨(Nat.le_of_ble_eq_true rfl), (Nat.le_of_ble_eq_true rfl)⟩ (Nat.le_of_ble_eq_true rfl) ⟨(Nat.le_of_ble_eq_true rfl), (Nat.le_of_ble_eq_true rfl)⟩ dX4_become_11 (fun H locs hM => ?_)
  obtain rfl := so1 h
  exact bz_vret (pc := 14) X hM hr hlk dX4_become_14 (Nat.le_of_ble_eq_true rfl) (Nat.le_of_ble_eq_true rfl)
theorem rX4_become {N : Nat} {M : Mm} {a0 : Nat} {a1 : Int32} {a2 : Int32} {r9 : Mm} (h : fX4_become N M a0 a1 a2 = some r9) : ∃ fs, M[a0]? = some (.inr (4, fs)) := by
  unfold fX4_become at h
  obtain ⟨_, e1, _⟩ := ob h
  exact gC_spec e1
theorem ctX4_become (l : Launch) {P : PT} {N : Nat} {M : Mm} {a0 : Nat} {a1 : Int32} {a2 : Int32} {M9 : Mm} (h : fX4_become N M a0 a1 a2 = some M9) : Ct l yX4_become cX4_become 3 none 2 0 P [.ref (pB P + a0), .int a1, .int a2] M none M9 :=
  Ct.mk (by decide +kernel) (Nat.le_of_ble_eq_true rfl) (fun p e s m args below meth c hX => wX4_become hX M a0 a1 a2 h)
set_option maxHeartbeats 4000000 in
set_option maxRecDepth 100000 in
theorem wjX10_sheet_82 {p : Program} {l : Launch} {e : Env} {s : State} {m : MethodId} {args : Array Value} {below : List Frame} {meth : Method} {c : Code} {P : PT} {N : Nat}  {r9 : Int32} {M9 : Mm} (hX : Cy p s m args c meth cX10_sheet 5 RX10 "sheet" (some .int) P)   (M : Mm)  (s0 : Nat) (s1 : Int32) (s2 : Int32) (h : jX10_sheet_82 N M s0 s1 s2 = some (r9, M9)) : Wq p l e s m args below meth c 3 0 (some (.int r9)) M9 5 P 0 82 [] [.int s2, .int s1, .ref (pB P + s0)] M := by
  unfold jX10_sheet_82 at h
  have hX0 := hX
  obtain ⟨X, hr, hlk, hnm⟩ := hX0
  have hx := X.1.1
  have hb := X.1.2.1
  intro H locs ls hM hl
  obtain ⟨M2, e1, h⟩ := ob h
  obtain ⟨fs3, hb4⟩ := (rX4_become e1)
  refine bz_callV0 (pc := 82) (As := [.int s1, .int s2]) (rest := []) X hM hl.1 k_RX10_372 (ctX4_become l e1) rfl hb4 rfl rfl ⟨(Nat.le_of_ble_eq_true rfl), (Nat.le_of_ble_eq_true rfl)⟩ (Nat.le_of_ble_eq_true rfl) ⟨(Nat.le_of_ble_eq_true rfl), (Nat.le_of_ble_eq_true rfl)⟩ dX10_sheet_82 (fun H locs hM => ?_)
  refine lv_iconst (pc := 85) (v := (1 : Int32)) hx hb dX10_sheet_85 (by decide) ?_
  obtain ⟨rfl, rfl⟩ := so2 h
  exact bz_iret (pc := 86) X hM hr hlk dX10_sheet_86 (Nat.le_of_ble_eq_true rfl) (Nat.le_of_ble_eq_true rfl)
set_option maxHeartbeats 4000000 in
set_option maxRecDepth 100000 in
theorem wjX10_sheet_70 {p : Program} {l : Launch} {e : Env} {s : State} {m : MethodId} {args : Array Value} {below : List Frame} {meth : Method} {c : Code} {P : PT} {N : Nat}  {r9 : Int32} {M9 : Mm} (hX : Cy p s m args c meth cX10_sheet 5 RX10 "sheet" (some .int) P)   (M : Mm) (x2 : Int32) (x3 : Int32) (x4 : Nat)  (h : jX10_sheet_70 N M x2 x3 x4 = some (r9, M9)) : Wq p l e s m args below meth c 3 0 (some (.int r9)) M9 5 P 0 70 [(2, .int x2), (3, .int x3), (4, .ref (pB P + x4))] [] M := by
  unfold jX10_sheet_70 at h
  have hX0 := hX
  obtain ⟨X, hr, hlk, hnm⟩ := hX0
  have hx := X.1.1
  have hb := X.1.2.1
  intro H locs ls hM hl
  refine lv_aload (pc := 70) hx hb dX10_sheet_70 (lv_at hl 2 rfl) ?_
  refine lv_iload_n (pc := 72) hx hb dX10_sheet_72 rfl (lv_at hl 0 rfl) ?_
  refine lv_iload_n (pc := 73) hx hb dX10_sheet_73 rfl (lv_at hl 0 rfl) ?_
  refine lv_if_ne (pc := 74) (tgt := 81) hx hb dX10_sheet_74 (by decide) (fun hc => ?_) (fun hc => ?_)
  · have h := if_f hc h
    refine lv_iload_n (pc := 81) hx hb dX10_sheet_81 rfl (lv_at hl 1 rfl) ?_
    exact wjX10_sheet_82 hX _ _ _ _ h H locs ls hM (lv_sub hl [] rfl)
  · have h := if_t hc h
    refine lv_iconst (pc := 77) (v := (0 : Int32)) hx hb dX10_sheet_77 (by decide) ?_
    refine lv_goto (pc := 78) (tgt := 82) hx hb dX10_sheet_78 (by decide) ?_
    exact wjX10_sheet_82 hX _ _ _ _ h H locs ls hM (lv_sub hl [] rfl)
set_option maxHeartbeats 4000000 in
set_option maxRecDepth 100000 in
theorem wjX10_sheet_54 {p : Program} {l : Launch} {e : Env} {s : State} {m : MethodId} {args : Array Value} {below : List Frame} {meth : Method} {c : Code} {P : PT} {N : Nat}  {r9 : Int32} {M9 : Mm} (hX : Cy p s m args c meth cX10_sheet 5 RX10 "sheet" (some .int) P)   (M : Mm) (x0 : Nat) (x2 : Int32) (x3 : Int32) (x4 : Nat)  (h : jX10_sheet_54 N M x0 x2 x3 x4 = some (r9, M9)) : Wq p l e s m args below meth c 3 0 (some (.int r9)) M9 5 P 0 54 [(0, .ref (pB P + x0)), (2, .int x2), (3, .int x3), (4, .ref (pB P + x4))] [] M := by
  unfold jX10_sheet_54 at h
  have hX0 := hX
  obtain ⟨X, hr, hlk, hnm⟩ := hX0
  have hx := X.1.1
  have hb := X.1.2.1
  intro H locs ls hM hl
  refine lv_iload_n (pc := 54) hx hb dX10_sheet_54 rfl (lv_at hl 1 rfl) ?_
  refine lv_if_eq (pc := 55) (tgt := 70) hx hb dX10_sheet_55 (by decide) (fun hc => ?_) (fun hc => ?_)
  · have h := if_t hc h
    exact wjX10_sheet_70 hX _ _ _ _ h H locs ls hM (lv_sub hl [1, 2, 3] rfl)
  · have h := if_f hc h
    refine lv_iload_n (pc := 58) hx hb dX10_sheet_58 rfl (lv_at hl 2 rfl) ?_
    refine lv_bipush (pc := 59) (v := (40 : Int32)) hx hb dX10_sheet_59 (by decide) ?_
    refine lv_icmp_le (pc := 61) (tgt := 70) hx hb dX10_sheet_61 (by decide) (fun hc => ?_) (fun hc => ?_)
    · have h := if_t hc h
      exact wjX10_sheet_70 hX _ _ _ _ h H locs ls hM (lv_sub hl [1, 2, 3] rfl)
    · have h := if_f hc h
      refine lv_aload_n (pc := 64) hx hb dX10_sheet_64 rfl (lv_at hl 0 rfl) ?_
      refine lv_iconst (pc := 65) (v := (1 : Int32)) hx hb dX10_sheet_65 (by decide) ?_
      obtain ⟨v2, M3, e1, h⟩ := ob2 h
      obtain ⟨fs4, hb5⟩ := (rX10_error e1)
      refine bz_callV1 (pc := 66) (As := [.int (1 : Int32)]) (rest := []) X hM hl.1 k_RX10_78 (ctX10_error l e1) rfl hb5 rfl rfl ⟨(Nat.le_of_ble_eq_true rfl), (Nat.le_of_ble_eq_true rfl)⟩ (Nat.le_of_ble_eq_true rfl) ⟨(Nat.le_of_ble_eq_true rfl), (Nat.le_of_ble_eq_true rfl)⟩ dX10_sheet_66 (fun H locs hM => ?_)
      obtain ⟨rfl, rfl⟩ := so2 h
      exact bz_iret (pc := 69) X hM hr hlk dX10_sheet_69 (Nat.le_of_ble_eq_true rfl) (Nat.le_of_ble_eq_true rfl)
set_option maxHeartbeats 4000000 in
set_option maxRecDepth 100000 in
theorem wjX10_sheet_40 {p : Program} {l : Launch} {e : Env} {s : State} {m : MethodId} {args : Array Value} {below : List Frame} {meth : Method} {c : Code} {P : PT} {N : Nat}  {r9 : Int32} {M9 : Mm} (hX : Cy p s m args c meth cX10_sheet 5 RX10 "sheet" (some .int) P)   (M : Mm) (x0 : Nat) (x2 : Int32) (x3 : Int32) (x4 : Nat)  (h : jX10_sheet_40 N M x0 x2 x3 x4 = some (r9, M9)) : Wq p l e s m args below meth c 3 0 (some (.int r9)) M9 5 P 0 40 [(0, .ref (pB P + x0)), (2, .int x2), (3, .int x3), (4, .ref (pB P + x4))] [] M := by
  unfold jX10_sheet_40 at h
  have hX0 := hX
  obtain ⟨X, hr, hlk, hnm⟩ := hX0
  have hx := X.1.1
  have hb := X.1.2.1
  intro H locs ls hM hl
  refine lv_iload_n (pc := 40) hx hb dX10_sheet_40 rfl (lv_at hl 1 rfl) ?_
  refine lv_if_eq (pc := 41) (tgt := 54) hx hb dX10_sheet_41 (by decide) (fun hc => ?_) (fun hc => ?_)
  · have h := if_t hc h
    exact wjX10_sheet_54 hX _ _ _ _ _ h H locs ls hM (lv_sub hl [0, 1, 2, 3] rfl)
  · have h := if_f hc h
    refine lv_iload_n (pc := 44) hx hb dX10_sheet_44 rfl (lv_at hl 2 rfl) ?_
    refine lv_if_ge (pc := 45) (tgt := 54) hx hb dX10_sheet_45 (by decide) (fun hc => ?_) (fun hc => ?_)
    · have h := if_t hc h
      exact wjX10_sheet_54 hX _ _ _ _ _ h H locs ls hM (lv_sub hl [0, 1, 2, 3] rfl)
    · have h := if_f hc h
      refine lv_aload_n (pc := 48) hx hb dX10_sheet_48 rfl (lv_at hl 0 rfl) ?_
      refine lv_iconst (pc := 49) (v := (3 : Int32)) hx hb dX10_sheet_49 (by decide) ?_
      obtain ⟨v2, M3, e1, h⟩ := ob2 h
      obtain ⟨fs4, hb5⟩ := (rX10_error e1)
      refine bz_callV1 (pc := 50) (As := [.int (3 : Int32)]) (rest := []) X hM hl.1 k_RX10_78 (ctX10_error l e1) rfl hb5 rfl rfl ⟨(Nat.le_of_ble_eq_true rfl), (Nat.le_of_ble_eq_true rfl)⟩ (Nat.le_of_ble_eq_true rfl) ⟨(Nat.le_of_ble_eq_true rfl), (Nat.le_of_ble_eq_true rfl)⟩ dX10_sheet_50 (fun H locs hM => ?_)
      obtain ⟨rfl, rfl⟩ := so2 h
      exact bz_iret (pc := 53) X hM hr hlk dX10_sheet_53 (Nat.le_of_ble_eq_true rfl) (Nat.le_of_ble_eq_true rfl)
set_option maxHeartbeats 4000000 in
set_option maxRecDepth 100000 in
theorem wjX10_sheet_34 {p : Program} {l : Launch} {e : Env} {s : State} {m : MethodId} {args : Array Value} {below : List Frame} {meth : Method} {c : Code} {P : PT} {N : Nat}  {r9 : Int32} {M9 : Mm} (hX : Cy p s m args c meth cX10_sheet 5 RX10 "sheet" (some .int) P)   (M : Mm) (x0 : Nat)  (h : jX10_sheet_34 N M x0 = some (r9, M9)) : Wq p l e s m args below meth c 3 0 (some (.int r9)) M9 5 P 0 34 [(0, .ref (pB P + x0))] [] M := by
  unfold jX10_sheet_34 at h
  have hX0 := hX
  obtain ⟨X, hr, hlk, hnm⟩ := hX0
  have hx := X.1.1
  have hb := X.1.2.1
  intro H locs ls hM hl
  refine lv_aload_n (pc := 34) hx hb dX10_sheet_34 rfl (lv_at hl 0 rfl) ?_
  refine lv_iconst (pc := 35) (v := (1 : Int32)) hx hb dX10_sheet_35 (by decide) ?_
  obtain ⟨v2, M3, e1, h⟩ := ob2 h
  obtain ⟨fs4, hb5⟩ := (rX10_error e1)
  refine bz_callV1 (pc := 36) (As := [.int (1 : Int32)]) (rest := []) X hM hl.1 k_RX10_78 (ctX10_error l e1) rfl hb5 rfl rfl ⟨(Nat.le_of_ble_eq_true rfl), (Nat.le_of_ble_eq_true rfl)⟩ (Nat.le_of_ble_eq_true rfl) ⟨(Nat.le_of_ble_eq_true rfl), (Nat.le_of_ble_eq_true rfl)⟩ dX10_sheet_36 (fun H locs hM => ?_)
  obtain ⟨rfl, rfl⟩ := so2 h
  exact bz_iret (pc := 39) X hM hr hlk dX10_sheet_39 (Nat.le_of_ble_eq_true rfl) (Nat.le_of_ble_eq_true rfl)
set_option maxHeartbeats 4000000 in
set_option maxRecDepth 100000 in
theorem wX10_sheet {p : Program} {l : Launch} {e : Env} {s : State} {m : MethodId} {args : Array Value} {below : List Frame} {meth : Method} {c : Code} {P : PT} {N : Nat}  {r9 : Int32} {M9 : Mm} (hX : Cy p s m args c meth cX10_sheet 5 RX10 "sheet" (some .int) P)  (M : Mm) (a0 : Nat) (a1 : Int32) (a2 : Int32) (a3 : Int32) (h : fX10_sheet N M a0 a1 a2 a3 = some (r9, M9)) : Wq p l e s m args below meth c 3 0 (some (.int r9)) M9 5 P 0 0 [(0, .ref (pB P + a0)), (1, .int a1), (2, .int a2), (3, .int a3)] [] M := by
  unfold fX10_sheet at h
  obtain ⟨_, _, h⟩ := ob h
  have hX0 := hX
  obtain ⟨X, hr, hlk, hnm⟩ := hX0
  have hx := X.1.1
  have hb := X.1.2.1
  intro H locs ls hM hl
  refine lv_aload_n (pc := 0) hx hb dX10_sheet_0 rfl (lv_at hl 0 rfl) ?_
  refine lv_iload_n (pc := 1) hx hb dX10_sheet_1 rfl (lv_at hl 1 rfl) ?_
  obtain ⟨r2, e1, h⟩ := ob h
  obtain ⟨fs3, hb4⟩ := (rX10_sheetAt e1)
  refine bz_callV1 (pc := 2) (As := [.int a1]) (rest := []) X hM hl.1 k_RX10_155 (ctX10_sheetAt l e1) rfl hb4 rfl rfl ⟨(Nat.le_of_ble_eq_true rfl), (Nat.le_of_ble_eq_true rfl)⟩ (Nat.le_of_ble_eq_true rfl) ⟨(Nat.le_of_ble_eq_true rfl), (Nat.le_of_ble_eq_true rfl)⟩ dX10_sheet_2 (fun H locs hM => ?_)
  refine bz_astoreO (pc := 5) (lv' := [(4, rO P r2), (0, .ref (pB P + a0)), (1, .int a1), (2, .int a2), (3, .int a3)]) hx hb dX10_sheet_5 hl (by decide) rfl (fun ls hl => ?_)
  refine bz_aloadO (pc := 7) hx hb dX10_sheet_7 (lv_at hl 0 rfl) ?_
  refine bz_ifnullO (pc := 9) (tgt := 34) hx hb dX10_sheet_9 (by decide) (fun hc => ?_) (fun q5 hc => ?_)
  · subst hc
    have h := om_n rfl h
    have hl : lv_has ls 5 [(4, .null), (0, .ref (pB P + a0)), (1, .int a1), (2, .int a2), (3, .int a3)] := hl
    exact wjX10_sheet_34 hX _ _ h H locs ls hM (lv_sub hl [1] rfl)
  · subst hc
    have h := om_s rfl h
    have hl : lv_has ls 5 [(4, .ref (pB P + q5)), (0, .ref (pB P + a0)), (1, .int a1), (2, .int a2), (3, .int a3)] := hl
    refine lv_iload_n (pc := 12) hx hb dX10_sheet_12 rfl (lv_at hl 3 rfl) ?_
    refine lv_if_eq (pc := 13) (tgt := 40) hx hb dX10_sheet_13 (by decide) (fun hc => ?_) (fun hc => ?_)
    · have h := if_t hc h
      exact wjX10_sheet_40 hX _ _ _ _ _ h H locs ls hM (lv_sub hl [1, 3, 4, 0] rfl)
    · have h := if_f hc h
      refine lv_iload_n (pc := 16) hx hb dX10_sheet_16 rfl (lv_at hl 3 rfl) ?_
      refine lv_bipush (pc := 17) (v := (8 : Int32)) hx hb dX10_sheet_17 (by decide) ?_
      refine lv_icmp_eq (pc := 19) (tgt := 40) hx hb dX10_sheet_19 (by decide) (fun hc => ?_) (fun hc => ?_)
      · have h := if_t hc h
        exact wjX10_sheet_40 hX _ _ _ _ _ h H locs ls hM (lv_sub hl [1, 3, 4, 0] rfl)
      · have h := if_f hc h
        refine lv_iload_n (pc := 22) hx hb dX10_sheet_22 rfl (lv_at hl 3 rfl) ?_
        refine lv_bipush (pc := 23) (v := (16 : Int32)) hx hb dX10_sheet_23 (by decide) ?_
        refine lv_icmp_eq (pc := 25) (tgt := 40) hx hb dX10_sheet_25 (by decide) (fun hc => ?_) (fun hc => ?_)
        · have h := if_t hc h
          exact wjX10_sheet_40 hX _ _ _ _ _ h H locs ls hM (lv_sub hl [1, 3, 4, 0] rfl)
        · have h := if_f hc h
          refine lv_iload_n (pc := 28) hx hb dX10_sheet_28 rfl (lv_at hl 3 rfl) ?_
          refine lv_bipush (pc := 29) (v := (32 : Int32)) hx hb dX10_sheet_29 (by decide) ?_
          refine lv_icmp_eq (pc := 31) (tgt := 40) hx hb dX10_sheet_31 (by decide) (fun hc => ?_) (fun hc => ?_)
          · have h := if_t hc h
            exact wjX10_sheet_40 hX _ _ _ _ _ h H locs ls hM (lv_sub hl [1, 3, 4, 0] rfl)
          · have h := if_f hc h
            exact wjX10_sheet_34 hX _ _ h H locs ls hM (lv_sub hl [1] rfl)
theorem rX10_sheet {N : Nat} {M : Mm} {a0 : Nat} {a1 : Int32} {a2 : Int32} {a3 : Int32} {r9 : Int32 × Mm} (h : fX10_sheet N M a0 a1 a2 a3 = some r9) : ∃ fs, M[a0]? = some (.inr (10, fs)) := by
  unfold fX10_sheet at h
  obtain ⟨_, e1, _⟩ := ob h
  exact gC_spec e1
theorem ctX10_sheet (l : Launch) {P : PT} {N : Nat} {M : Mm} {a0 : Nat} {a1 : Int32} {a2 : Int32} {a3 : Int32} {r9 : Int32} {M9 : Mm} (h : fX10_sheet N M a0 a1 a2 a3 = some (r9, M9)) : Ct l yX10_sheet cX10_sheet 5 (some .int) 3 0 P [.ref (pB P + a0), .int a1, .int a2, .int a3] M (some (.int r9)) M9 :=
  Ct.mk (by decide +kernel) (Nat.le_of_ble_eq_true rfl) (fun p e s m args below meth c hX => wX10_sheet hX M a0 a1 a2 a3 h)
set_option maxHeartbeats 4000000 in
set_option maxRecDepth 100000 in
theorem wBX11_sheet_90 {p : Program} {l : Launch} {e : Env} {s : State} {m : MethodId} {args : Array Value} {below : List Frame} {meth : Method} {c : Code} {P : PT} {N : Nat} {K90 : Mm → Nat → Int32 → Int32 → Option (Int32 × Mm)}  {r9 : Int32} {M9 : Mm} (hX : Cy p s m args c meth cX11_sheet 5 RX11 "sheet" (some .int) P)  (hK90 : ∀ (M : Mm) (x0 : Nat) (x1 : Int32) (x4 : Int32), K90 M x0 x1 x4 = some (r9, M9) → Wq p l e s m args below meth c 2 0 (some (.int r9)) M9 5 P 0 90 [(0, .ref (pB P + x0)), (1, .int x1), (4, .int x4)] [] M) (M : Mm) (x0 : Nat) (x1 : Int32) (x4 : Int32)  (h : BX11_sheet_90 N K90 M x0 x1 x4 = some (r9, M9)) : Wq p l e s m args below meth c 2 0 (some (.int r9)) M9 5 P 0 90 [(0, .ref (pB P + x0)), (1, .int x1), (4, .int x4)] [] M := by
  unfold BX11_sheet_90 at h
  have hX0 := hX
  obtain ⟨X, hr, hlk, hnm⟩ := hX0
  have hx := X.1.1
  have hb := X.1.2.1
  intro H locs ls hM hl
  refine lv_iload (pc := 90) hx hb dX11_sheet_90 (lv_at hl 2 rfl) ?_
  refine lv_bipush (pc := 92) (v := (40 : Int32)) hx hb dX11_sheet_92 (by decide) ?_
  refine lv_icmp_ge (pc := 94) (tgt := 116) hx hb dX11_sheet_94 (by decide) (fun hc => ?_) (fun hc => ?_)
  · have h := if_t hc h
    refine lv_iconst (pc := 116) (v := (1 : Int32)) hx hb dX11_sheet_116 (by decide) ?_
    obtain ⟨rfl, rfl⟩ := so2 h
    exact bz_iret (pc := 117) X hM hr hlk dX11_sheet_117 (Nat.le_of_ble_eq_true rfl) (Nat.le_of_ble_eq_true rfl)
  · have h := if_f hc h
    refine lv_aload_n (pc := 97) hx hb dX11_sheet_97 rfl (lv_at hl 0 rfl) ?_
    obtain ⟨q1, e2, h⟩ := ob h
    refine bz_getQ (pc := 98) X hM fl_RX11_32 e2 dX11_sheet_98 ?_
    refine lv_bipush (pc := 101) (v := (40 : Int32)) hx hb dX11_sheet_101 (by decide) ?_
    refine lv_iload_n (pc := 103) hx hb dX11_sheet_103 rfl (lv_at hl 1 rfl) ?_
    refine lv_imul (pc := 104) hx hb dX11_sheet_104 ?_
    refine lv_iload (pc := 105) hx hb dX11_sheet_105 (lv_at hl 2 rfl) ?_
    refine lv_iadd (pc := 107) hx hb dX11_sheet_107 ?_
    refine lv_iconst (pc := 108) (v := (0 : Int32)) hx hb dX11_sheet_108 (by decide) ?_
    obtain ⟨M3, e4, h⟩ := ob h
    refine bz_iast (pc := 109) X hM e4 dX11_sheet_109 (fun H locs hM => ?_)
    refine lv_iinc (pc := 110) (v := (x4 + (1 : Int32))) (lv' := [(4, .int (x4 + (1 : Int32))), (0, .ref (pB P + x0)), (1, .int x1)]) hx hb dX11_sheet_110 hl (k := 2) rfl rfl (by decide) rfl (fun ls hl => ?_)
    refine lv_goto (pc := 113) (tgt := 90) hx hb dX11_sheet_113 (by decide) ?_
    exact hK90 _ _ _ _ h H locs ls hM (lv_sub hl [1, 2, 0] rfl)
set_option maxHeartbeats 4000000 in
set_option maxRecDepth 100000 in
theorem wLX11_sheet_90 {p : Program} {l : Launch} {e : Env} {s : State} {m : MethodId} {args : Array Value} {below : List Frame} {meth : Method} {c : Code} {P : PT} {N : Nat}  {r9 : Int32} {M9 : Mm} (hX : Cy p s m args c meth cX11_sheet 5 RX11 "sheet" (some .int) P)   : ∀ (n : Nat) (M : Mm) (x0 : Nat) (x1 : Int32) (x4 : Int32) , LX11_sheet_90 N n M x0 x1 x4 = some (r9, M9) → Wq p l e s m args below meth c 2 0 (some (.int r9)) M9 5 P 0 90 [(0, .ref (pB P + x0)), (1, .int x1), (4, .int x4)] [] M := by
  intro n
  induction n with
  | zero => intro M x0 x1 x4 h; cases h
  | succ n ih => intro M x0 x1 x4 h; exact wBX11_sheet_90 hX ih M x0 x1 x4 h
set_option maxHeartbeats 4000000 in
set_option maxRecDepth 100000 in
theorem wjX11_sheet_65 {p : Program} {l : Launch} {e : Env} {s : State} {m : MethodId} {args : Array Value} {below : List Frame} {meth : Method} {c : Code} {P : PT} {N : Nat}  {r9 : Int32} {M9 : Mm} (hX : Cy p s m args c meth cX11_sheet 5 RX11 "sheet" (some .int) P)   (M : Mm) (x0 : Nat) (x1 : Int32) (x2 : Int32) (x3 : Int32)  (h : jX11_sheet_65 N M x0 x1 x2 x3 = some (r9, M9)) : Wq p l e s m args below meth c 2 0 (some (.int r9)) M9 5 P 0 65 [(0, .ref (pB P + x0)), (1, .int x1), (2, .int x2), (3, .int x3)] [] M := by
  unfold jX11_sheet_65 at h
  have hX0 := hX
  obtain ⟨X, hr, hlk, hnm⟩ := hX0
  have hx := X.1.1
  have hb := X.1.2.1
  intro H locs ls hM hl
  refine lv_aload_n (pc := 65) hx hb dX11_sheet_65 rfl (lv_at hl 0 rfl) ?_
  obtain ⟨q1, e2, h⟩ := ob h
  refine bz_getQ (pc := 66) X hM fl_RX11_26 e2 dX11_sheet_66 ?_
  refine lv_iload_n (pc := 69) hx hb dX11_sheet_69 rfl (lv_at hl 1 rfl) ?_
  refine lv_iload_n (pc := 70) hx hb dX11_sheet_70 rfl (lv_at hl 2 rfl) ?_
  obtain ⟨M3, e4, h⟩ := ob h
  refine bz_iast (pc := 71) X hM e4 dX11_sheet_71 (fun H locs hM => ?_)
  refine lv_aload_n (pc := 72) hx hb dX11_sheet_72 rfl (lv_at hl 0 rfl) ?_
  obtain ⟨q5, e6, h⟩ := ob h
  refine bz_getQ (pc := 73) X hM fl_RX11_29 e6 dX11_sheet_73 ?_
  refine lv_iload_n (pc := 76) hx hb dX11_sheet_76 rfl (lv_at hl 1 rfl) ?_
  refine lv_iload_n (pc := 77) hx hb dX11_sheet_77 rfl (lv_at hl 2 rfl) ?_
  refine lv_if_ne (pc := 78) (tgt := 85) hx hb dX11_sheet_78 (by decide) (fun hc => ?_) (fun hc => ?_)
  · have h := if_f hc h
    refine lv_iload_n (pc := 85) hx hb dX11_sheet_85 rfl (lv_at hl 3 rfl) ?_
    obtain ⟨M7, e8, h⟩ := ob h
    refine bz_iast (pc := 86) X hM e8 dX11_sheet_86 (fun H locs hM => ?_)
    refine lv_iconst (pc := 87) (v := (0 : Int32)) hx hb dX11_sheet_87 (by decide) ?_
    refine lv_istore (pc := 88) (lv' := [(4, .int (0 : Int32)), (0, .ref (pB P + x0)), (1, .int x1), (2, .int x2), (3, .int x3)]) hx hb dX11_sheet_88 hl (by decide) rfl (fun ls hl => ?_)
    exact wLX11_sheet_90 hX _ _ _ _ _ h H locs ls hM (lv_sub hl [1, 2, 0] rfl)
  · have h := if_t hc h
    refine lv_iconst (pc := 81) (v := (0 : Int32)) hx hb dX11_sheet_81 (by decide) ?_
    refine lv_goto (pc := 82) (tgt := 86) hx hb dX11_sheet_82 (by decide) ?_
    obtain ⟨M9, e10, h⟩ := ob h
    refine bz_iast (pc := 86) X hM e10 dX11_sheet_86 (fun H locs hM => ?_)
    refine lv_iconst (pc := 87) (v := (0 : Int32)) hx hb dX11_sheet_87 (by decide) ?_
    refine lv_istore (pc := 88) (lv' := [(4, .int (0 : Int32)), (0, .ref (pB P + x0)), (1, .int x1), (2, .int x2), (3, .int x3)]) hx hb dX11_sheet_88 hl (by decide) rfl (fun ls hl => ?_)
    exact wLX11_sheet_90 hX _ _ _ _ _ h H locs ls hM (lv_sub hl [1, 2, 0] rfl)
set_option maxHeartbeats 4000000 in
set_option maxRecDepth 100000 in
theorem wjX11_sheet_49 {p : Program} {l : Launch} {e : Env} {s : State} {m : MethodId} {args : Array Value} {below : List Frame} {meth : Method} {c : Code} {P : PT} {N : Nat}  {r9 : Int32} {M9 : Mm} (hX : Cy p s m args c meth cX11_sheet 5 RX11 "sheet" (some .int) P)   (M : Mm) (x0 : Nat) (x1 : Int32) (x2 : Int32) (x3 : Int32)  (h : jX11_sheet_49 N M x0 x1 x2 x3 = some (r9, M9)) : Wq p l e s m args below meth c 2 0 (some (.int r9)) M9 5 P 0 49 [(0, .ref (pB P + x0)), (1, .int x1), (2, .int x2), (3, .int x3)] [] M := by
  unfold jX11_sheet_49 at h
  have hX0 := hX
  obtain ⟨X, hr, hlk, hnm⟩ := hX0
  have hx := X.1.1
  have hb := X.1.2.1
  intro H locs ls hM hl
  refine lv_iload_n (pc := 49) hx hb dX11_sheet_49 rfl (lv_at hl 2 rfl) ?_
  refine lv_if_eq (pc := 50) (tgt := 65) hx hb dX11_sheet_50 (by decide) (fun hc => ?_) (fun hc => ?_)
  · have h := if_t hc h
    exact wjX11_sheet_65 hX _ _ _ _ _ h H locs ls hM (lv_sub hl [0, 1, 2, 3] rfl)
  · have h := if_f hc h
    refine lv_iload_n (pc := 53) hx hb dX11_sheet_53 rfl (lv_at hl 3 rfl) ?_
    refine lv_bipush (pc := 54) (v := (40 : Int32)) hx hb dX11_sheet_54 (by decide) ?_
    refine lv_icmp_le (pc := 56) (tgt := 65) hx hb dX11_sheet_56 (by decide) (fun hc => ?_) (fun hc => ?_)
    · have h := if_t hc h
      exact wjX11_sheet_65 hX _ _ _ _ _ h H locs ls hM (lv_sub hl [0, 1, 2, 3] rfl)
    · have h := if_f hc h
      refine lv_aload_n (pc := 59) hx hb dX11_sheet_59 rfl (lv_at hl 0 rfl) ?_
      refine lv_iconst (pc := 60) (v := (1 : Int32)) hx hb dX11_sheet_60 (by decide) ?_
      obtain ⟨v2, M3, e1, h⟩ := ob2 h
      obtain ⟨fs4, hb5⟩ := (rX11_error e1)
      refine bz_callV1 (pc := 61) (As := [.int (1 : Int32)]) (rest := []) X hM hl.1 k_RX11_73 (ctX11_error l e1) rfl hb5 rfl rfl ⟨(Nat.le_of_ble_eq_true rfl), (Nat.le_of_ble_eq_true rfl)⟩ (Nat.le_of_ble_eq_true rfl) ⟨(Nat.le_of_ble_eq_true rfl), (Nat.le_of_ble_eq_true rfl)⟩ dX11_sheet_61 (fun H locs hM => ?_)
      obtain ⟨rfl, rfl⟩ := so2 h
      exact bz_iret (pc := 64) X hM hr hlk dX11_sheet_64 (Nat.le_of_ble_eq_true rfl) (Nat.le_of_ble_eq_true rfl)
set_option maxHeartbeats 4000000 in
set_option maxRecDepth 100000 in
theorem wjX11_sheet_35 {p : Program} {l : Launch} {e : Env} {s : State} {m : MethodId} {args : Array Value} {below : List Frame} {meth : Method} {c : Code} {P : PT} {N : Nat}  {r9 : Int32} {M9 : Mm} (hX : Cy p s m args c meth cX11_sheet 5 RX11 "sheet" (some .int) P)   (M : Mm) (x0 : Nat) (x1 : Int32) (x2 : Int32) (x3 : Int32)  (h : jX11_sheet_35 N M x0 x1 x2 x3 = some (r9, M9)) : Wq p l e s m args below meth c 2 0 (some (.int r9)) M9 5 P 0 35 [(0, .ref (pB P + x0)), (1, .int x1), (2, .int x2), (3, .int x3)] [] M := by
  unfold jX11_sheet_35 at h
  have hX0 := hX
  obtain ⟨X, hr, hlk, hnm⟩ := hX0
  have hx := X.1.1
  have hb := X.1.2.1
  intro H locs ls hM hl
  refine lv_iload_n (pc := 35) hx hb dX11_sheet_35 rfl (lv_at hl 2 rfl) ?_
  refine lv_if_eq (pc := 36) (tgt := 49) hx hb dX11_sheet_36 (by decide) (fun hc => ?_) (fun hc => ?_)
  · have h := if_t hc h
    exact wjX11_sheet_49 hX _ _ _ _ _ h H locs ls hM (lv_sub hl [0, 1, 2, 3] rfl)
  · have h := if_f hc h
    refine lv_iload_n (pc := 39) hx hb dX11_sheet_39 rfl (lv_at hl 3 rfl) ?_
    refine lv_if_ge (pc := 40) (tgt := 49) hx hb dX11_sheet_40 (by decide) (fun hc => ?_) (fun hc => ?_)
    · have h := if_t hc h
      exact wjX11_sheet_49 hX _ _ _ _ _ h H locs ls hM (lv_sub hl [0, 1, 2, 3] rfl)
    · have h := if_f hc h
      refine lv_aload_n (pc := 43) hx hb dX11_sheet_43 rfl (lv_at hl 0 rfl) ?_
      refine lv_iconst (pc := 44) (v := (3 : Int32)) hx hb dX11_sheet_44 (by decide) ?_
      obtain ⟨v2, M3, e1, h⟩ := ob2 h
      obtain ⟨fs4, hb5⟩ := (rX11_error e1)
      refine bz_callV1 (pc := 45) (As := [.int (3 : Int32)]) (rest := []) X hM hl.1 k_RX11_73 (ctX11_error l e1) rfl hb5 rfl rfl ⟨(Nat.le_of_ble_eq_true rfl), (Nat.le_of_ble_eq_true rfl)⟩ (Nat.le_of_ble_eq_true rfl) ⟨(Nat.le_of_ble_eq_true rfl), (Nat.le_of_ble_eq_true rfl)⟩ dX11_sheet_45 (fun H locs hM => ?_)
      obtain ⟨rfl, rfl⟩ := so2 h
      exact bz_iret (pc := 48) X hM hr hlk dX11_sheet_48 (Nat.le_of_ble_eq_true rfl) (Nat.le_of_ble_eq_true rfl)
set_option maxHeartbeats 4000000 in
set_option maxRecDepth 100000 in
theorem wjX11_sheet_29 {p : Program} {l : Launch} {e : Env} {s : State} {m : MethodId} {args : Array Value} {below : List Frame} {meth : Method} {c : Code} {P : PT} {N : Nat}  {r9 : Int32} {M9 : Mm} (hX : Cy p s m args c meth cX11_sheet 5 RX11 "sheet" (some .int) P)   (M : Mm) (x0 : Nat)  (h : jX11_sheet_29 N M x0 = some (r9, M9)) : Wq p l e s m args below meth c 2 0 (some (.int r9)) M9 5 P 0 29 [(0, .ref (pB P + x0))] [] M := by
  unfold jX11_sheet_29 at h
  have hX0 := hX
  obtain ⟨X, hr, hlk, hnm⟩ := hX0
  have hx := X.1.1
  have hb := X.1.2.1
  intro H locs ls hM hl
  refine lv_aload_n (pc := 29) hx hb dX11_sheet_29 rfl (lv_at hl 0 rfl) ?_
  refine lv_iconst (pc := 30) (v := (1 : Int32)) hx hb dX11_sheet_30 (by decide) ?_
  obtain ⟨v2, M3, e1, h⟩ := ob2 h
  obtain ⟨fs4, hb5⟩ := (rX11_error e1)
  refine bz_callV1 (pc := 31) (As := [.int (1 : Int32)]) (rest := []) X hM hl.1 k_RX11_73 (ctX11_error l e1) rfl hb5 rfl rfl ⟨(Nat.le_of_ble_eq_true rfl), (Nat.le_of_ble_eq_true rfl)⟩ (Nat.le_of_ble_eq_true rfl) ⟨(Nat.le_of_ble_eq_true rfl), (Nat.le_of_ble_eq_true rfl)⟩ dX11_sheet_31 (fun H locs hM => ?_)
  obtain ⟨rfl, rfl⟩ := so2 h
  exact bz_iret (pc := 34) X hM hr hlk dX11_sheet_34 (Nat.le_of_ble_eq_true rfl) (Nat.le_of_ble_eq_true rfl)
set_option maxHeartbeats 4000000 in
set_option maxRecDepth 100000 in
theorem wX11_sheet {p : Program} {l : Launch} {e : Env} {s : State} {m : MethodId} {args : Array Value} {below : List Frame} {meth : Method} {c : Code} {P : PT} {N : Nat}  {r9 : Int32} {M9 : Mm} (hX : Cy p s m args c meth cX11_sheet 5 RX11 "sheet" (some .int) P)  (M : Mm) (a0 : Nat) (a1 : Int32) (a2 : Int32) (a3 : Int32) (h : fX11_sheet N M a0 a1 a2 a3 = some (r9, M9)) : Wq p l e s m args below meth c 2 0 (some (.int r9)) M9 5 P 0 0 [(0, .ref (pB P + a0)), (1, .int a1), (2, .int a2), (3, .int a3)] [] M := by
  unfold fX11_sheet at h
  obtain ⟨_, _, h⟩ := ob h
  have hX0 := hX
  obtain ⟨X, hr, hlk, hnm⟩ := hX0
  have hx := X.1.1
  have hb := X.1.2.1
  intro H locs ls hM hl
  refine lv_iload_n (pc := 0) hx hb dX11_sheet_0 rfl (lv_at hl 1 rfl) ?_
  obtain ⟨v2, e1, h⟩ := ob h
  refine bz_callS1 (pc := 1) (As := [.int a1]) (rest := []) X hM hl.1 k_RX11_145 (ctX11_isSheet l e1) rfl rfl ⟨(Nat.le_of_ble_eq_true rfl), (Nat.le_of_ble_eq_true rfl)⟩ (Nat.le_of_ble_eq_true rfl) ⟨(Nat.le_of_ble_eq_true rfl), (Nat.le_of_ble_eq_true rfl)⟩ dX11_sheet_1 (fun H locs hM => ?_)
  refine lv_if_eq (pc := 4) (tgt := 29) hx hb dX11_sheet_4 (by decide) (fun hc => ?_) (fun hc => ?_)
  · have h := if_t hc h
    exact wjX11_sheet_29 hX _ _ h H locs ls hM (lv_sub hl [0] rfl)
  · have h := if_f hc h
    refine lv_iload_n (pc := 7) hx hb dX11_sheet_7 rfl (lv_at hl 2 rfl) ?_
    refine lv_if_eq (pc := 8) (tgt := 35) hx hb dX11_sheet_8 (by decide) (fun hc => ?_) (fun hc => ?_)
    · have h := if_t hc h
      exact wjX11_sheet_35 hX _ _ _ _ _ h H locs ls hM (lv_sub hl [0, 1, 2, 3] rfl)
    · have h := if_f hc h
      refine lv_iload_n (pc := 11) hx hb dX11_sheet_11 rfl (lv_at hl 2 rfl) ?_
      refine lv_bipush (pc := 12) (v := (8 : Int32)) hx hb dX11_sheet_12 (by decide) ?_
      refine lv_icmp_eq (pc := 14) (tgt := 35) hx hb dX11_sheet_14 (by decide) (fun hc => ?_) (fun hc => ?_)
      · have h := if_t hc h
        exact wjX11_sheet_35 hX _ _ _ _ _ h H locs ls hM (lv_sub hl [0, 1, 2, 3] rfl)
      · have h := if_f hc h
        refine lv_iload_n (pc := 17) hx hb dX11_sheet_17 rfl (lv_at hl 2 rfl) ?_
        refine lv_bipush (pc := 18) (v := (16 : Int32)) hx hb dX11_sheet_18 (by decide) ?_
        refine lv_icmp_eq (pc := 20) (tgt := 35) hx hb dX11_sheet_20 (by decide) (fun hc => ?_) (fun hc => ?_)
        · have h := if_t hc h
          exact wjX11_sheet_35 hX _ _ _ _ _ h H locs ls hM (lv_sub hl [0, 1, 2, 3] rfl)
        · have h := if_f hc h
          refine lv_iload_n (pc := 23) hx hb dX11_sheet_23 rfl (lv_at hl 2 rfl) ?_
          refine lv_bipush (pc := 24) (v := (32 : Int32)) hx hb dX11_sheet_24 (by decide) ?_
          refine lv_icmp_eq (pc := 26) (tgt := 35) hx hb dX11_sheet_26 (by decide) (fun hc => ?_) (fun hc => ?_)
          · have h := if_t hc h
            exact wjX11_sheet_35 hX _ _ _ _ _ h H locs ls hM (lv_sub hl [0, 1, 2, 3] rfl)
          · have h := if_f hc h
            exact wjX11_sheet_29 hX _ _ h H locs ls hM (lv_sub hl [0] rfl)
theorem rX11_sheet {N : Nat} {M : Mm} {a0 : Nat} {a1 : Int32} {a2 : Int32} {a3 : Int32} {r9 : Int32 × Mm} (h : fX11_sheet N M a0 a1 a2 a3 = some r9) : ∃ fs, M[a0]? = some (.inr (11, fs)) := by
  unfold fX11_sheet at h
  obtain ⟨_, e1, _⟩ := ob h
  exact gC_spec e1
theorem ctX11_sheet (l : Launch) {P : PT} {N : Nat} {M : Mm} {a0 : Nat} {a1 : Int32} {a2 : Int32} {a3 : Int32} {r9 : Int32} {M9 : Mm} (h : fX11_sheet N M a0 a1 a2 a3 = some (r9, M9)) : Ct l yX11_sheet cX11_sheet 5 (some .int) 2 0 P [.ref (pB P + a0), .int a1, .int a2, .int a3] M (some (.int r9)) M9 :=
  Ct.mk (by decide +kernel) (Nat.le_of_ble_eq_true rfl) (fun p e s m args below meth c hX => wX11_sheet hX M a0 a1 a2 a3 h)
set_option maxHeartbeats 4000000 in
set_option maxRecDepth 100000 in
theorem wjX4_write_34 {p : Program} {l : Launch} {e : Env} {s : State} {m : MethodId} {args : Array Value} {below : List Frame} {meth : Method} {c : Code} {P : PT}  {M9 : Mm} (hX : Cy p s m args c meth cX4_write 3 RX4 "write" none P)   (M : Mm)  (s0 : Nat) (s1 : Int32) (s2 : Int32) (h : jX4_write_34 M s0 s1 s2 = some M9) : Wq p l e s m args below meth c 2 0 none M9 3 P 0 34 [] [.int s2, .int s1, .ref (pB P + s0)] M := by
  unfold jX4_write_34 at h
  have hX0 := hX
  obtain ⟨X, hr, hlk, hnm⟩ := hX0
  have hx := X.1.1
  have hb := X.1.2.1
  intro H locs ls hM hl
  obtain ⟨v2, M3, e1, h⟩ := ob2 h
  obtain ⟨fs4, hb5⟩ := (rX3_exchange e1)
  refine bz_callV1 (pc := 34) (As := [.int s1, .int s2]) (rest := []) X hM hl.1 k_RX4_40 (ctX3_exchange l e1) rfl hb5 rfl rfl ⟨(Nat.le_of_ble_eq_true rfl), (Nat.le_of_ble_eq_true rfl)⟩ (Nat.le_of_ble_eq_true rfl) ⟨(Nat.le_of_ble_eq_true rfl), (Nat.le_of_ble_eq_true rfl)⟩ dX4_write_34 (fun H locs hM => ?_)
  refine lv_pop (pc := 37) hx hb dX4_write_37 rfl ?_
  obtain rfl := so1 h
  exact bz_vret (pc := 38) X hM hr hlk dX4_write_38 (Nat.le_of_ble_eq_true rfl) (Nat.le_of_ble_eq_true rfl)
set_option maxHeartbeats 4000000 in
set_option maxRecDepth 100000 in
theorem wX4_write {p : Program} {l : Launch} {e : Env} {s : State} {m : MethodId} {args : Array Value} {below : List Frame} {meth : Method} {c : Code} {P : PT}  {M9 : Mm} (hX : Cy p s m args c meth cX4_write 3 RX4 "write" none P)  (M : Mm) (a0 : Nat) (a1 : Int32) (a2 : Int32) (h : fX4_write M a0 a1 a2 = some M9) : Wq p l e s m args below meth c 2 0 none M9 3 P 0 0 [(0, .ref (pB P + a0)), (1, .int a1), (2, .int a2)] [] M := by
  unfold fX4_write at h
  obtain ⟨_, _, h⟩ := ob h
  have hX0 := hX
  obtain ⟨X, hr, hlk, hnm⟩ := hX0
  have hx := X.1.1
  have hb := X.1.2.1
  intro H locs ls hM hl
  refine lv_aload_n (pc := 0) hx hb dX4_write_0 rfl (lv_at hl 0 rfl) ?_
  obtain ⟨q1, e2, h⟩ := ob h
  refine bz_getQ (pc := 1) X hM fl_RX4_14 e2 dX4_write_1 ?_
  refine lv_iload_n (pc := 4) hx hb dX4_write_4 rfl (lv_at hl 1 rfl) ?_
  refine lv_aload_n (pc := 5) hx hb dX4_write_5 rfl (lv_at hl 0 rfl) ?_
  obtain ⟨v3, e4, h⟩ := ob h
  refine bz_getI (pc := 6) X hM fl_RX4_20 e4 dX4_write_6 ?_
  refine lv_bipush (pc := 9) (v := (8 : Int32)) hx hb dX4_write_9 (by decide) ?_
  refine lv_icmp_ne (pc := 11) (tgt := 19) hx hb dX4_write_11 (by decide) (fun hc => ?_) (fun hc => ?_)
  · have h := if_f hc h
    refine lv_aload_n (pc := 19) hx hb dX4_write_19 rfl (lv_at hl 0 rfl) ?_
    obtain ⟨v5, e6, h⟩ := ob h
    refine bz_getI (pc := 20) X hM fl_RX4_20 e6 dX4_write_20 ?_
    refine lv_bipush (pc := 23) (v := (16 : Int32)) hx hb dX4_write_23 (by decide) ?_
    refine lv_icmp_ne (pc := 25) (tgt := 33) hx hb dX4_write_25 (by decide) (fun hc => ?_) (fun hc => ?_)
    · have h := if_f hc h
      refine lv_iload_n (pc := 33) hx hb dX4_write_33 rfl (lv_at hl 2 rfl) ?_
      exact wjX4_write_34 hX _ _ _ _ h H locs ls hM (lv_sub hl [] rfl)
    · have h := if_t hc h
      refine lv_iload_n (pc := 28) hx hb dX4_write_28 rfl (lv_at hl 2 rfl) ?_
      refine lv_i2s (pc := 29) (v := ((a2).toInt16.toInt32)) hx hb dX4_write_29 rfl ?_
      refine lv_goto (pc := 30) (tgt := 34) hx hb dX4_write_30 (by decide) ?_
      exact wjX4_write_34 hX _ _ _ _ h H locs ls hM (lv_sub hl [] rfl)
  · have h := if_t hc h
    refine lv_iload_n (pc := 14) hx hb dX4_write_14 rfl (lv_at hl 2 rfl) ?_
    refine lv_i2b (pc := 15) (v := ((a2).toInt8.toInt32)) hx hb dX4_write_15 rfl ?_
    refine lv_goto (pc := 16) (tgt := 34) hx hb dX4_write_16 (by decide) ?_
    exact wjX4_write_34 hX _ _ _ _ h H locs ls hM (lv_sub hl [] rfl)
theorem rX4_write {M : Mm} {a0 : Nat} {a1 : Int32} {a2 : Int32} {r9 : Mm} (h : fX4_write M a0 a1 a2 = some r9) : ∃ fs, M[a0]? = some (.inr (4, fs)) := by
  unfold fX4_write at h
  obtain ⟨_, e1, _⟩ := ob h
  exact gC_spec e1
theorem ctX4_write (l : Launch) {P : PT} {M : Mm} {a0 : Nat} {a1 : Int32} {a2 : Int32} {M9 : Mm} (h : fX4_write M a0 a1 a2 = some M9) : Ct l yX4_write cX4_write 3 none 2 0 P [.ref (pB P + a0), .int a1, .int a2] M none M9 :=
  Ct.mk (by decide +kernel) (Nat.le_of_ble_eq_true rfl) (fun p e s m args below meth c hX => wX4_write hX M a0 a1 a2 h)
set_option maxHeartbeats 4000000 in
set_option maxRecDepth 100000 in
theorem wX10_put {p : Program} {l : Launch} {e : Env} {s : State} {m : MethodId} {args : Array Value} {below : List Frame} {meth : Method} {c : Code} {P : PT}  {r9 : Int32} {M9 : Mm} (hX : Cy p s m args c meth cX10_put 5 RX10 "put" (some .int) P)  (M : Mm) (a0 : Nat) (a1 : Int32) (a2 : Int32) (a3 : Int32) (h : fX10_put M a0 a1 a2 a3 = some (r9, M9)) : Wq p l e s m args below meth c 3 0 (some (.int r9)) M9 5 P 0 0 [(0, .ref (pB P + a0)), (1, .int a1), (2, .int a2), (3, .int a3)] [] M := by
  unfold fX10_put at h
  obtain ⟨_, _, h⟩ := ob h
  have hX0 := hX
  obtain ⟨X, hr, hlk, hnm⟩ := hX0
  have hx := X.1.1
  have hb := X.1.2.1
  intro H locs ls hM hl
  refine lv_aload_n (pc := 0) hx hb dX10_put_0 rfl (lv_at hl 0 rfl) ?_
  refine lv_iload_n (pc := 1) hx hb dX10_put_1 rfl (lv_at hl 1 rfl) ?_
  obtain ⟨r2, e1, h⟩ := ob h
  obtain ⟨fs3, hb4⟩ := (rX10_sheetAt e1)
  refine bz_callV1 (pc := 2) (As := [.int a1]) (rest := []) X hM hl.1 k_RX10_155 (ctX10_sheetAt l e1) rfl hb4 rfl rfl ⟨(Nat.le_of_ble_eq_true rfl), (Nat.le_of_ble_eq_true rfl)⟩ (Nat.le_of_ble_eq_true rfl) ⟨(Nat.le_of_ble_eq_true rfl), (Nat.le_of_ble_eq_true rfl)⟩ dX10_put_2 (fun H locs hM => ?_)
  refine bz_astoreO (pc := 5) (lv' := [(4, rO P r2), (0, .ref (pB P + a0)), (1, .int a1), (2, .int a2), (3, .int a3)]) hx hb dX10_put_5 hl (by decide) rfl (fun ls hl => ?_)
  refine bz_aloadO (pc := 7) hx hb dX10_put_7 (lv_at hl 0 rfl) ?_
  refine bz_ifnonnullO (pc := 9) (tgt := 18) hx hb dX10_put_9 (by decide) (fun q5 hc => ?_) (fun hc => ?_)
  · subst hc
    have h := om_s rfl h
    have hl : lv_has ls 5 [(4, .ref (pB P + q5)), (0, .ref (pB P + a0)), (1, .int a1), (2, .int a2), (3, .int a3)] := hl
    refine lv_aload (pc := 18) hx hb dX10_put_18 (lv_at hl 0 rfl) ?_
    obtain ⟨v12, e11, h⟩ := ob h
    obtain ⟨fs13, hb14⟩ := (rX4_isMissing e11)
    refine bz_callV1 (pc := 20) (As := []) (rest := []) X hM hl.1 k_RX10_159 (ctX4_isMissing l e11) rfl hb14 rfl rfl ⟨(Nat.le_of_ble_eq_true rfl), (Nat.le_of_ble_eq_true rfl)⟩ (Nat.le_of_ble_eq_true rfl) ⟨(Nat.le_of_ble_eq_true rfl), (Nat.le_of_ble_eq_true rfl)⟩ dX10_put_20 (fun H locs hM => ?_)
    refine lv_if_eq (pc := 23) (tgt := 32) hx hb dX10_put_23 (by decide) (fun hc => ?_) (fun hc => ?_)
    · have h := if_t hc h
      refine lv_aload (pc := 32) hx hb dX10_put_32 (lv_at hl 0 rfl) ?_
      refine lv_iload_n (pc := 34) hx hb dX10_put_34 rfl (lv_at hl 3 rfl) ?_
      obtain ⟨v16, e15, h⟩ := ob h
      obtain ⟨fs17, hb18⟩ := (rX4_hasNumber e15)
      refine bz_callV1 (pc := 35) (As := [.int a2]) (rest := []) X hM hl.1 k_RX10_167 (ctX4_hasNumber l e15) rfl hb18 rfl rfl ⟨(Nat.le_of_ble_eq_true rfl), (Nat.le_of_ble_eq_true rfl)⟩ (Nat.le_of_ble_eq_true rfl) ⟨(Nat.le_of_ble_eq_true rfl), (Nat.le_of_ble_eq_true rfl)⟩ dX10_put_35 (fun H locs hM => ?_)
      refine lv_if_ne (pc := 38) (tgt := 47) hx hb dX10_put_38 (by decide) (fun hc => ?_) (fun hc => ?_)
      · have h := if_f hc h
        refine lv_aload (pc := 47) hx hb dX10_put_47 (lv_at hl 0 rfl) ?_
        refine lv_iload_n (pc := 49) hx hb dX10_put_49 rfl (lv_at hl 3 rfl) ?_
        refine lv_iload_n (pc := 50) hx hb dX10_put_50 rfl (lv_at hl 4 rfl) ?_
        obtain ⟨M20, e19, h⟩ := ob h
        obtain ⟨fs21, hb22⟩ := (rX4_write e19)
        refine bz_callV0 (pc := 51) (As := [.int a2, .int a3]) (rest := []) X hM hl.1 k_RX10_375 (ctX4_write l e19) rfl hb22 rfl rfl ⟨(Nat.le_of_ble_eq_true rfl), (Nat.le_of_ble_eq_true rfl)⟩ (Nat.le_of_ble_eq_true rfl) ⟨(Nat.le_of_ble_eq_true rfl), (Nat.le_of_ble_eq_true rfl)⟩ dX10_put_51 (fun H locs hM => ?_)
        refine lv_iconst (pc := 54) (v := (1 : Int32)) hx hb dX10_put_54 (by decide) ?_
        obtain ⟨rfl, rfl⟩ := so2 h
        exact bz_iret (pc := 55) X hM hr hlk dX10_put_55 (Nat.le_of_ble_eq_true rfl) (Nat.le_of_ble_eq_true rfl)
      · have h := if_t hc h
        refine lv_aload_n (pc := 41) hx hb dX10_put_41 rfl (lv_at hl 1 rfl) ?_
        refine lv_iconst (pc := 42) (v := (1 : Int32)) hx hb dX10_put_42 (by decide) ?_
        obtain ⟨v24, M25, e23, h⟩ := ob2 h
        obtain ⟨fs26, hb27⟩ := (rX10_error e23)
        refine bz_callV1 (pc := 43) (As := [.int (1 : Int32)]) (rest := []) X hM hl.1 k_RX10_78 (ctX10_error l e23) rfl hb27 rfl rfl ⟨(Nat.le_of_ble_eq_true rfl), (Nat.le_of_ble_eq_true rfl)⟩ (Nat.le_of_ble_eq_true rfl) ⟨(Nat.le_of_ble_eq_true rfl), (Nat.le_of_ble_eq_true rfl)⟩ dX10_put_43 (fun H locs hM => ?_)
        obtain ⟨rfl, rfl⟩ := so2 h
        exact bz_iret (pc := 46) X hM hr hlk dX10_put_46 (Nat.le_of_ble_eq_true rfl) (Nat.le_of_ble_eq_true rfl)
    · have h := if_f hc h
      refine lv_aload_n (pc := 26) hx hb dX10_put_26 rfl (lv_at hl 1 rfl) ?_
      refine lv_iconst (pc := 27) (v := (2 : Int32)) hx hb dX10_put_27 (by decide) ?_
      obtain ⟨v29, M30, e28, h⟩ := ob2 h
      obtain ⟨fs31, hb32⟩ := (rX10_error e28)
      refine bz_callV1 (pc := 28) (As := [.int (2 : Int32)]) (rest := []) X hM hl.1 k_RX10_78 (ctX10_error l e28) rfl hb32 rfl rfl ⟨(Nat.le_of_ble_eq_true rfl), (Nat.le_of_ble_eq_true rfl)⟩ (Nat.le_of_ble_eq_true rfl) ⟨(Nat.le_of_ble_eq_true rfl), (Nat.le_of_ble_eq_true rfl)⟩ dX10_put_28 (fun H locs hM => ?_)
      obtain ⟨rfl, rfl⟩ := so2 h
      exact bz_iret (pc := 31) X hM hr hlk dX10_put_31 (Nat.le_of_ble_eq_true rfl) (Nat.le_of_ble_eq_true rfl)
  · subst hc
    have h := om_n rfl h
    have hl : lv_has ls 5 [(4, .null), (0, .ref (pB P + a0)), (1, .int a1), (2, .int a2), (3, .int a3)] := hl
    refine lv_aload_n (pc := 12) hx hb dX10_put_12 rfl (lv_at hl 1 rfl) ?_
    refine lv_iconst (pc := 13) (v := (1 : Int32)) hx hb dX10_put_13 (by decide) ?_
    obtain ⟨v7, M8, e6, h⟩ := ob2 h
    obtain ⟨fs9, hb10⟩ := (rX10_error e6)
    refine bz_callV1 (pc := 14) (As := [.int (1 : Int32)]) (rest := []) X hM hl.1 k_RX10_78 (ctX10_error l e6) rfl hb10 rfl rfl ⟨(Nat.le_of_ble_eq_true rfl), (Nat.le_of_ble_eq_true rfl)⟩ (Nat.le_of_ble_eq_true rfl) ⟨(Nat.le_of_ble_eq_true rfl), (Nat.le_of_ble_eq_true rfl)⟩ dX10_put_14 (fun H locs hM => ?_)
    obtain ⟨rfl, rfl⟩ := so2 h
    exact bz_iret (pc := 17) X hM hr hlk dX10_put_17 (Nat.le_of_ble_eq_true rfl) (Nat.le_of_ble_eq_true rfl)
theorem rX10_put {M : Mm} {a0 : Nat} {a1 : Int32} {a2 : Int32} {a3 : Int32} {r9 : Int32 × Mm} (h : fX10_put M a0 a1 a2 a3 = some r9) : ∃ fs, M[a0]? = some (.inr (10, fs)) := by
  unfold fX10_put at h
  obtain ⟨_, e1, _⟩ := ob h
  exact gC_spec e1
theorem ctX10_put (l : Launch) {P : PT} {M : Mm} {a0 : Nat} {a1 : Int32} {a2 : Int32} {a3 : Int32} {r9 : Int32} {M9 : Mm} (h : fX10_put M a0 a1 a2 a3 = some (r9, M9)) : Ct l yX10_put cX10_put 5 (some .int) 3 0 P [.ref (pB P + a0), .int a1, .int a2, .int a3] M (some (.int r9)) M9 :=
  Ct.mk (by decide +kernel) (Nat.le_of_ble_eq_true rfl) (fun p e s m args below meth c hX => wX10_put hX M a0 a1 a2 a3 h)
set_option maxHeartbeats 4000000 in
set_option maxRecDepth 100000 in
theorem wX11_put {p : Program} {l : Launch} {e : Env} {s : State} {m : MethodId} {args : Array Value} {below : List Frame} {meth : Method} {c : Code} {P : PT}  {r9 : Int32} {M9 : Mm} (hX : Cy p s m args c meth cX11_put 4 RX11 "put" (some .int) P)  (M : Mm) (a0 : Nat) (a1 : Int32) (a2 : Int32) (a3 : Int32) (h : fX11_put M a0 a1 a2 a3 = some (r9, M9)) : Wq p l e s m args below meth c 2 0 (some (.int r9)) M9 4 P 0 0 [(0, .ref (pB P + a0)), (1, .int a1), (2, .int a2), (3, .int a3)] [] M := by
  unfold fX11_put at h
  obtain ⟨_, _, h⟩ := ob h
  have hX0 := hX
  obtain ⟨X, hr, hlk, hnm⟩ := hX0
  have hx := X.1.1
  have hb := X.1.2.1
  intro H locs ls hM hl
  refine lv_iload_n (pc := 0) hx hb dX11_put_0 rfl (lv_at hl 1 rfl) ?_
  obtain ⟨v2, e1, h⟩ := ob h
  refine bz_callS1 (pc := 1) (As := [.int a1]) (rest := []) X hM hl.1 k_RX11_145 (ctX11_isSheet l e1) rfl rfl ⟨(Nat.le_of_ble_eq_true rfl), (Nat.le_of_ble_eq_true rfl)⟩ (Nat.le_of_ble_eq_true rfl) ⟨(Nat.le_of_ble_eq_true rfl), (Nat.le_of_ble_eq_true rfl)⟩ dX11_put_1 (fun H locs hM => ?_)
  refine lv_if_ne (pc := 4) (tgt := 13) hx hb dX11_put_4 (by decide) (fun hc => ?_) (fun hc => ?_)
  · have h := if_f hc h
    refine lv_aload_n (pc := 13) hx hb dX11_put_13 rfl (lv_at hl 0 rfl) ?_
    obtain ⟨q3, e4, h⟩ := ob h
    refine bz_getQ (pc := 14) X hM fl_RX11_26 e4 dX11_put_14 ?_
    refine lv_iload_n (pc := 17) hx hb dX11_put_17 rfl (lv_at hl 1 rfl) ?_
    obtain ⟨v5, e6, h⟩ := ob h
    refine bz_iald (pc := 18) X hM e6 dX11_put_18 ?_
    refine lv_if_ne (pc := 19) (tgt := 28) hx hb dX11_put_19 (by decide) (fun hc => ?_) (fun hc => ?_)
    · have h := if_f hc h
      refine lv_iload_n (pc := 28) hx hb dX11_put_28 rfl (lv_at hl 2 rfl) ?_
      refine lv_i2l (pc := 29) (v := ((a2).toInt64)) hx hb dX11_put_29 rfl ?_
      refine lv_lconst (pc := 30) (v := (0 : Int64)) hx hb dX11_put_30 (by decide) ?_
      refine lv_aload_n (pc := 31) hx hb dX11_put_31 rfl (lv_at hl 0 rfl) ?_
      obtain ⟨q7, e8, h⟩ := ob h
      refine bz_getQ (pc := 32) X hM fl_RX11_29 e8 dX11_put_32 ?_
      refine lv_iload_n (pc := 35) hx hb dX11_put_35 rfl (lv_at hl 1 rfl) ?_
      obtain ⟨v9, e10, h⟩ := ob h
      refine bz_iald (pc := 36) X hM e10 dX11_put_36 ?_
      refine lv_iconst (pc := 37) (v := (1 : Int32)) hx hb dX11_put_37 (by decide) ?_
      refine lv_isub (pc := 38) hx hb dX11_put_38 ?_
      refine lv_i2l (pc := 39) (v := (((v9 - (1 : Int32))).toInt64)) hx hb dX11_put_39 rfl ?_
      obtain ⟨v12, e11, h⟩ := ob h
      refine bz_callS1 (pc := 40) (As := [.long ((a2).toInt64), .long (0 : Int64), .long (((v9 - (1 : Int32))).toInt64)]) (rest := []) X hM hl.1 k_RX11_57 (ctX11_in l e11) rfl rfl ⟨(Nat.le_of_ble_eq_true rfl), (Nat.le_of_ble_eq_true rfl)⟩ (Nat.le_of_ble_eq_true rfl) ⟨(Nat.le_of_ble_eq_true rfl), (Nat.le_of_ble_eq_true rfl)⟩ dX11_put_40 (fun H locs hM => ?_)
      refine lv_if_ne (pc := 43) (tgt := 52) hx hb dX11_put_43 (by decide) (fun hc => ?_) (fun hc => ?_)
      · have h := if_f hc h
        refine lv_aload_n (pc := 52) hx hb dX11_put_52 rfl (lv_at hl 0 rfl) ?_
        obtain ⟨q13, e14, h⟩ := ob h
        refine bz_getQ (pc := 53) X hM fl_RX11_32 e14 dX11_put_53 ?_
        refine lv_bipush (pc := 56) (v := (40 : Int32)) hx hb dX11_put_56 (by decide) ?_
        refine lv_iload_n (pc := 58) hx hb dX11_put_58 rfl (lv_at hl 1 rfl) ?_
        refine lv_imul (pc := 59) hx hb dX11_put_59 ?_
        refine lv_iload_n (pc := 60) hx hb dX11_put_60 rfl (lv_at hl 2 rfl) ?_
        refine lv_iadd (pc := 61) hx hb dX11_put_61 ?_
        refine lv_aload_n (pc := 62) hx hb dX11_put_62 rfl (lv_at hl 0 rfl) ?_
        obtain ⟨q15, e16, h⟩ := ob h
        refine bz_getQ (pc := 63) X hM fl_RX11_26 e16 dX11_put_63 ?_
        refine lv_iload_n (pc := 66) hx hb dX11_put_66 rfl (lv_at hl 1 rfl) ?_
        obtain ⟨v17, e18, h⟩ := ob h
        refine bz_iald (pc := 67) X hM e18 dX11_put_67 ?_
        refine lv_bipush (pc := 68) (v := (8 : Int32)) hx hb dX11_put_68 (by decide) ?_
        refine lv_icmp_ne (pc := 70) (tgt := 78) hx hb dX11_put_70 (by decide) (fun hc => ?_) (fun hc => ?_)
        · have h := if_f hc h
          refine lv_aload_n (pc := 78) hx hb dX11_put_78 rfl (lv_at hl 0 rfl) ?_
          obtain ⟨q19, e20, h⟩ := ob h
          refine bz_getQ (pc := 79) X hM fl_RX11_26 e20 dX11_put_79 ?_
          refine lv_iload_n (pc := 82) hx hb dX11_put_82 rfl (lv_at hl 1 rfl) ?_
          obtain ⟨v21, e22, h⟩ := ob h
          refine bz_iald (pc := 83) X hM e22 dX11_put_83 ?_
          refine lv_bipush (pc := 84) (v := (16 : Int32)) hx hb dX11_put_84 (by decide) ?_
          refine lv_icmp_ne (pc := 86) (tgt := 94) hx hb dX11_put_86 (by decide) (fun hc => ?_) (fun hc => ?_)
          · have h := if_f hc h
            refine lv_iload_n (pc := 94) hx hb dX11_put_94 rfl (lv_at hl 3 rfl) ?_
            obtain ⟨M23, e24, h⟩ := ob h
            refine bz_iast (pc := 95) X hM e24 dX11_put_95 (fun H locs hM => ?_)
            refine lv_iconst (pc := 96) (v := (1 : Int32)) hx hb dX11_put_96 (by decide) ?_
            obtain ⟨rfl, rfl⟩ := so2 h
            exact bz_iret (pc := 97) X hM hr hlk dX11_put_97 (Nat.le_of_ble_eq_true rfl) (Nat.le_of_ble_eq_true rfl)
          · have h := if_t hc h
            refine lv_iload_n (pc := 89) hx hb dX11_put_89 rfl (lv_at hl 3 rfl) ?_
            refine lv_i2s (pc := 90) (v := ((a3).toInt16.toInt32)) hx hb dX11_put_90 rfl ?_
            refine lv_goto (pc := 91) (tgt := 95) hx hb dX11_put_91 (by decide) ?_
            obtain ⟨M25, e26, h⟩ := ob h
            refine bz_iast (pc := 95) X hM e26 dX11_put_95 (fun H locs hM => ?_)
            refine lv_iconst (pc := 96) (v := (1 : Int32)) hx hb dX11_put_96 (by decide) ?_
            obtain ⟨rfl, rfl⟩ := so2 h
            exact bz_iret (pc := 97) X hM hr hlk dX11_put_97 (Nat.le_of_ble_eq_true rfl) (Nat.le_of_ble_eq_true rfl)
        · have h := if_t hc h
          refine lv_iload_n (pc := 73) hx hb dX11_put_73 rfl (lv_at hl 3 rfl) ?_
          refine lv_i2b (pc := 74) (v := ((a3).toInt8.toInt32)) hx hb dX11_put_74 rfl ?_
          refine lv_goto (pc := 75) (tgt := 95) hx hb dX11_put_75 (by decide) ?_
          obtain ⟨M27, e28, h⟩ := ob h
          refine bz_iast (pc := 95) X hM e28 dX11_put_95 (fun H locs hM => ?_)
          refine lv_iconst (pc := 96) (v := (1 : Int32)) hx hb dX11_put_96 (by decide) ?_
          obtain ⟨rfl, rfl⟩ := so2 h
          exact bz_iret (pc := 97) X hM hr hlk dX11_put_97 (Nat.le_of_ble_eq_true rfl) (Nat.le_of_ble_eq_true rfl)
      · have h := if_t hc h
        refine lv_aload_n (pc := 46) hx hb dX11_put_46 rfl (lv_at hl 0 rfl) ?_
        refine lv_iconst (pc := 47) (v := (1 : Int32)) hx hb dX11_put_47 (by decide) ?_
        obtain ⟨v30, M31, e29, h⟩ := ob2 h
        obtain ⟨fs32, hb33⟩ := (rX11_error e29)
        refine bz_callV1 (pc := 48) (As := [.int (1 : Int32)]) (rest := []) X hM hl.1 k_RX11_73 (ctX11_error l e29) rfl hb33 rfl rfl ⟨(Nat.le_of_ble_eq_true rfl), (Nat.le_of_ble_eq_true rfl)⟩ (Nat.le_of_ble_eq_true rfl) ⟨(Nat.le_of_ble_eq_true rfl), (Nat.le_of_ble_eq_true rfl)⟩ dX11_put_48 (fun H locs hM => ?_)
        obtain ⟨rfl, rfl⟩ := so2 h
        exact bz_iret (pc := 51) X hM hr hlk dX11_put_51 (Nat.le_of_ble_eq_true rfl) (Nat.le_of_ble_eq_true rfl)
    · have h := if_t hc h
      refine lv_aload_n (pc := 22) hx hb dX11_put_22 rfl (lv_at hl 0 rfl) ?_
      refine lv_iconst (pc := 23) (v := (2 : Int32)) hx hb dX11_put_23 (by decide) ?_
      obtain ⟨v35, M36, e34, h⟩ := ob2 h
      obtain ⟨fs37, hb38⟩ := (rX11_error e34)
      refine bz_callV1 (pc := 24) (As := [.int (2 : Int32)]) (rest := []) X hM hl.1 k_RX11_73 (ctX11_error l e34) rfl hb38 rfl rfl ⟨(Nat.le_of_ble_eq_true rfl), (Nat.le_of_ble_eq_true rfl)⟩ (Nat.le_of_ble_eq_true rfl) ⟨(Nat.le_of_ble_eq_true rfl), (Nat.le_of_ble_eq_true rfl)⟩ dX11_put_24 (fun H locs hM => ?_)
      obtain ⟨rfl, rfl⟩ := so2 h
      exact bz_iret (pc := 27) X hM hr hlk dX11_put_27 (Nat.le_of_ble_eq_true rfl) (Nat.le_of_ble_eq_true rfl)
  · have h := if_t hc h
    refine lv_aload_n (pc := 7) hx hb dX11_put_7 rfl (lv_at hl 0 rfl) ?_
    refine lv_iconst (pc := 8) (v := (1 : Int32)) hx hb dX11_put_8 (by decide) ?_
    obtain ⟨v40, M41, e39, h⟩ := ob2 h
    obtain ⟨fs42, hb43⟩ := (rX11_error e39)
    refine bz_callV1 (pc := 9) (As := [.int (1 : Int32)]) (rest := []) X hM hl.1 k_RX11_73 (ctX11_error l e39) rfl hb43 rfl rfl ⟨(Nat.le_of_ble_eq_true rfl), (Nat.le_of_ble_eq_true rfl)⟩ (Nat.le_of_ble_eq_true rfl) ⟨(Nat.le_of_ble_eq_true rfl), (Nat.le_of_ble_eq_true rfl)⟩ dX11_put_9 (fun H locs hM => ?_)
    obtain ⟨rfl, rfl⟩ := so2 h
    exact bz_iret (pc := 12) X hM hr hlk dX11_put_12 (Nat.le_of_ble_eq_true rfl) (Nat.le_of_ble_eq_true rfl)
theorem rX11_put {M : Mm} {a0 : Nat} {a1 : Int32} {a2 : Int32} {a3 : Int32} {r9 : Int32 × Mm} (h : fX11_put M a0 a1 a2 a3 = some r9) : ∃ fs, M[a0]? = some (.inr (11, fs)) := by
  unfold fX11_put at h
  obtain ⟨_, e1, _⟩ := ob h
  exact gC_spec e1
theorem ctX11_put (l : Launch) {P : PT} {M : Mm} {a0 : Nat} {a1 : Int32} {a2 : Int32} {a3 : Int32} {r9 : Int32} {M9 : Mm} (h : fX11_put M a0 a1 a2 a3 = some (r9, M9)) : Ct l yX11_put cX11_put 4 (some .int) 2 0 P [.ref (pB P + a0), .int a1, .int a2, .int a3] M (some (.int r9)) M9 :=
  Ct.mk (by decide +kernel) (Nat.le_of_ble_eq_true rfl) (fun p e s m args below meth c hX => wX11_put hX M a0 a1 a2 a3 h)
set_option maxHeartbeats 4000000 in
set_option maxRecDepth 100000 in
theorem wX4_hasNumbers {p : Program} {l : Launch} {e : Env} {s : State} {m : MethodId} {args : Array Value} {below : List Frame} {meth : Method} {c : Code} {P : PT}  {r9 : Int32} (hX : Cy p s m args c meth cX4_hasNumbers 3 RX4 "hasNumbers" (some .boolean) P)  (M : Mm) (a0 : Nat) (a1 : Int32) (a2 : Int32) (h : fX4_hasNumbers M a0 a1 a2 = some r9) : Wq p l e s m args below meth c 1 0 (some (.int r9)) M 3 P 0 0 [(0, .ref (pB P + a0)), (1, .int a1), (2, .int a2)] [] M := by
  unfold fX4_hasNumbers at h
  obtain ⟨_, _, h⟩ := ob h
  have hX0 := hX
  obtain ⟨X, hr, hlk, hnm⟩ := hX0
  have hx := X.1.1
  have hb := X.1.2.1
  intro H locs ls hM hl
  refine lv_iload_n (pc := 0) hx hb dX4_hasNumbers_0 rfl (lv_at hl 2 rfl) ?_
  refine lv_if_lt (pc := 1) (tgt := 36) hx hb dX4_hasNumbers_1 (by decide) (fun hc => ?_) (fun hc => ?_)
  · have h := if_t hc h
    refine lv_iconst (pc := 36) (v := (0 : Int32)) hx hb dX4_hasNumbers_36 (by decide) ?_
    obtain rfl := so1 h
    exact bz_zret (pc := 37) X hM hr hlk (by decide) dX4_hasNumbers_37 (Nat.le_of_ble_eq_true rfl) (Nat.le_of_ble_eq_true rfl)
  · have h := if_f hc h
    refine lv_iload_n (pc := 4) hx hb dX4_hasNumbers_4 rfl (lv_at hl 1 rfl) ?_
    refine lv_if_lt (pc := 5) (tgt := 36) hx hb dX4_hasNumbers_5 (by decide) (fun hc => ?_) (fun hc => ?_)
    · have h := if_t hc h
      refine lv_iconst (pc := 36) (v := (0 : Int32)) hx hb dX4_hasNumbers_36 (by decide) ?_
      obtain rfl := so1 h
      exact bz_zret (pc := 37) X hM hr hlk (by decide) dX4_hasNumbers_37 (Nat.le_of_ble_eq_true rfl) (Nat.le_of_ble_eq_true rfl)
    · have h := if_f hc h
      refine lv_iload_n (pc := 8) hx hb dX4_hasNumbers_8 rfl (lv_at hl 2 rfl) ?_
      refine lv_aload_n (pc := 9) hx hb dX4_hasNumbers_9 rfl (lv_at hl 0 rfl) ?_
      obtain ⟨q1, e2, h⟩ := ob h
      refine bz_getQ (pc := 10) X hM fl_RX4_14 e2 dX4_hasNumbers_10 ?_
      obtain ⟨v4, e3, h⟩ := ob h
      obtain ⟨fs5, hb6⟩ := (rX3_size e3)
      refine bz_callV1 (pc := 13) (As := []) (rest := [.int a2]) X hM hl.1 k_RX4_32 (ctX3_size l e3) rfl hb6 rfl rfl ⟨(Nat.le_of_ble_eq_true rfl), (Nat.le_of_ble_eq_true rfl)⟩ (Nat.le_of_ble_eq_true rfl) ⟨(Nat.le_of_ble_eq_true rfl), (Nat.le_of_ble_eq_true rfl)⟩ dX4_hasNumbers_13 (fun H locs hM => ?_)
      refine lv_icmp_gt (pc := 16) (tgt := 36) hx hb dX4_hasNumbers_16 (by decide) (fun hc => ?_) (fun hc => ?_)
      · have h := if_t hc h
        refine lv_iconst (pc := 36) (v := (0 : Int32)) hx hb dX4_hasNumbers_36 (by decide) ?_
        obtain rfl := so1 h
        exact bz_zret (pc := 37) X hM hr hlk (by decide) dX4_hasNumbers_37 (Nat.le_of_ble_eq_true rfl) (Nat.le_of_ble_eq_true rfl)
      · have h := if_f hc h
        refine lv_iload_n (pc := 19) hx hb dX4_hasNumbers_19 rfl (lv_at hl 1 rfl) ?_
        refine lv_aload_n (pc := 20) hx hb dX4_hasNumbers_20 rfl (lv_at hl 0 rfl) ?_
        obtain ⟨q7, e8, h⟩ := ob h
        refine bz_getQ (pc := 21) X hM fl_RX4_14 e8 dX4_hasNumbers_21 ?_
        obtain ⟨v10, e9, h⟩ := ob h
        obtain ⟨fs11, hb12⟩ := (rX3_size e9)
        refine bz_callV1 (pc := 24) (As := []) (rest := [.int a1]) X hM hl.1 k_RX4_32 (ctX3_size l e9) rfl hb12 rfl rfl ⟨(Nat.le_of_ble_eq_true rfl), (Nat.le_of_ble_eq_true rfl)⟩ (Nat.le_of_ble_eq_true rfl) ⟨(Nat.le_of_ble_eq_true rfl), (Nat.le_of_ble_eq_true rfl)⟩ dX4_hasNumbers_24 (fun H locs hM => ?_)
        refine lv_iload_n (pc := 27) hx hb dX4_hasNumbers_27 rfl (lv_at hl 2 rfl) ?_
        refine lv_isub (pc := 28) hx hb dX4_hasNumbers_28 ?_
        refine lv_icmp_gt (pc := 29) (tgt := 36) hx hb dX4_hasNumbers_29 (by decide) (fun hc => ?_) (fun hc => ?_)
        · have h := if_t hc h
          refine lv_iconst (pc := 36) (v := (0 : Int32)) hx hb dX4_hasNumbers_36 (by decide) ?_
          obtain rfl := so1 h
          exact bz_zret (pc := 37) X hM hr hlk (by decide) dX4_hasNumbers_37 (Nat.le_of_ble_eq_true rfl) (Nat.le_of_ble_eq_true rfl)
        · have h := if_f hc h
          refine lv_iconst (pc := 32) (v := (1 : Int32)) hx hb dX4_hasNumbers_32 (by decide) ?_
          refine lv_goto (pc := 33) (tgt := 37) hx hb dX4_hasNumbers_33 (by decide) ?_
          obtain rfl := so1 h
          exact bz_zret (pc := 37) X hM hr hlk (by decide) dX4_hasNumbers_37 (Nat.le_of_ble_eq_true rfl) (Nat.le_of_ble_eq_true rfl)
theorem rX4_hasNumbers {M : Mm} {a0 : Nat} {a1 : Int32} {a2 : Int32} {r9 : Int32} (h : fX4_hasNumbers M a0 a1 a2 = some r9) : ∃ fs, M[a0]? = some (.inr (4, fs)) := by
  unfold fX4_hasNumbers at h
  obtain ⟨_, e1, _⟩ := ob h
  exact gC_spec e1
theorem ctX4_hasNumbers (l : Launch) {P : PT} {M : Mm} {a0 : Nat} {a1 : Int32} {a2 : Int32} {r9 : Int32} (h : fX4_hasNumbers M a0 a1 a2 = some r9) : Ct l yX4_hasNumbers cX4_hasNumbers 3 (some .boolean) 1 0 P [.ref (pB P + a0), .int a1, .int a2] M (some (.int r9)) M :=
  Ct.mk (by decide +kernel) (Nat.le_of_ble_eq_true rfl) (fun p e s m args below meth c hX => wX4_hasNumbers hX M a0 a1 a2 h)
set_option maxHeartbeats 4000000 in
set_option maxRecDepth 100000 in
theorem wX3_takeFrom {p : Program} {l : Launch} {e : Env} {s : State} {m : MethodId} {args : Array Value} {below : List Frame} {meth : Method} {c : Code} {P : PT}  {M9 : Mm} (hX : Cy p s m args c meth cX3_takeFrom 5 RX3 "takeFrom" none P)  (M : Mm) (a0 : Nat) (a1 : Nat) (a2 : Int32) (a3 : Int32) (a4 : Int32) (h : fX3_takeFrom M a0 a1 a2 a3 a4 = some M9) : Wq p l e s m args below meth c 1 0 none M9 5 P 0 0 [(0, .ref (pB P + a0)), (1, .ref (pB P + a1)), (2, .int a2), (3, .int a3), (4, .int a4)] [] M := by
  unfold fX3_takeFrom at h
  obtain ⟨_, _, h⟩ := ob h
  have hX0 := hX
  obtain ⟨X, hr, hlk, hnm⟩ := hX0
  have hx := X.1.1
  have hb := X.1.2.1
  intro H locs ls hM hl
  refine lv_iload (pc := 0) hx hb dX3_takeFrom_0 (lv_at hl 4 rfl) ?_
  refine lv_if_lt (pc := 2) (tgt := 50) hx hb dX3_takeFrom_2 (by decide) (fun hc => ?_) (fun hc => ?_)
  · have h := if_t hc h
    obtain rfl := so1 h
    exact bz_vret (pc := 50) X hM hr hlk dX3_takeFrom_50 (Nat.le_of_ble_eq_true rfl) (Nat.le_of_ble_eq_true rfl)
  · have h := if_f hc h
    refine lv_iload_n (pc := 5) hx hb dX3_takeFrom_5 rfl (lv_at hl 2 rfl) ?_
    refine lv_if_lt (pc := 6) (tgt := 50) hx hb dX3_takeFrom_6 (by decide) (fun hc => ?_) (fun hc => ?_)
    · have h := if_t hc h
      obtain rfl := so1 h
      exact bz_vret (pc := 50) X hM hr hlk dX3_takeFrom_50 (Nat.le_of_ble_eq_true rfl) (Nat.le_of_ble_eq_true rfl)
    · have h := if_f hc h
      refine lv_iload_n (pc := 9) hx hb dX3_takeFrom_9 rfl (lv_at hl 3 rfl) ?_
      refine lv_if_lt (pc := 10) (tgt := 50) hx hb dX3_takeFrom_10 (by decide) (fun hc => ?_) (fun hc => ?_)
      · have h := if_t hc h
        obtain rfl := so1 h
        exact bz_vret (pc := 50) X hM hr hlk dX3_takeFrom_50 (Nat.le_of_ble_eq_true rfl) (Nat.le_of_ble_eq_true rfl)
      · have h := if_f hc h
        refine lv_iload_n (pc := 13) hx hb dX3_takeFrom_13 rfl (lv_at hl 2 rfl) ?_
        refine lv_aload_n (pc := 14) hx hb dX3_takeFrom_14 rfl (lv_at hl 1 rfl) ?_
        obtain ⟨v1, e2, h⟩ := ob h
        refine bz_getI (pc := 15) X hM fl_RX3_19 e2 dX3_takeFrom_15 ?_
        refine lv_iload (pc := 18) hx hb dX3_takeFrom_18 (lv_at hl 4 rfl) ?_
        refine lv_isub (pc := 20) hx hb dX3_takeFrom_20 ?_
        refine lv_icmp_gt (pc := 21) (tgt := 50) hx hb dX3_takeFrom_21 (by decide) (fun hc => ?_) (fun hc => ?_)
        · have h := if_t hc h
          obtain rfl := so1 h
          exact bz_vret (pc := 50) X hM hr hlk dX3_takeFrom_50 (Nat.le_of_ble_eq_true rfl) (Nat.le_of_ble_eq_true rfl)
        · have h := if_f hc h
          refine lv_iload_n (pc := 24) hx hb dX3_takeFrom_24 rfl (lv_at hl 3 rfl) ?_
          refine lv_aload_n (pc := 25) hx hb dX3_takeFrom_25 rfl (lv_at hl 0 rfl) ?_
          obtain ⟨v3, e4, h⟩ := ob h
          refine bz_getI (pc := 26) X hM fl_RX3_19 e4 dX3_takeFrom_26 ?_
          refine lv_iload (pc := 29) hx hb dX3_takeFrom_29 (lv_at hl 4 rfl) ?_
          refine lv_isub (pc := 31) hx hb dX3_takeFrom_31 ?_
          refine lv_icmp_gt (pc := 32) (tgt := 50) hx hb dX3_takeFrom_32 (by decide) (fun hc => ?_) (fun hc => ?_)
          · have h := if_t hc h
            obtain rfl := so1 h
            exact bz_vret (pc := 50) X hM hr hlk dX3_takeFrom_50 (Nat.le_of_ble_eq_true rfl) (Nat.le_of_ble_eq_true rfl)
          · have h := if_f hc h
            refine lv_aload_n (pc := 35) hx hb dX3_takeFrom_35 rfl (lv_at hl 1 rfl) ?_
            obtain ⟨q5, e6, h⟩ := ob h
            refine bz_getQ (pc := 36) X hM fl_RX3_13 e6 dX3_takeFrom_36 ?_
            refine lv_iload_n (pc := 39) hx hb dX3_takeFrom_39 rfl (lv_at hl 2 rfl) ?_
            refine lv_aload_n (pc := 40) hx hb dX3_takeFrom_40 rfl (lv_at hl 0 rfl) ?_
            obtain ⟨q7, e8, h⟩ := ob h
            refine bz_getQ (pc := 41) X hM fl_RX3_13 e8 dX3_takeFrom_41 ?_
            refine lv_iload_n (pc := 44) hx hb dX3_takeFrom_44 rfl (lv_at hl 3 rfl) ?_
            refine lv_iload (pc := 45) hx hb dX3_takeFrom_45 (lv_at hl 4 rfl) ?_
            obtain ⟨M9, e10, h⟩ := ob h
            refine bz_copy (pc := 47) X hM hl.1 g_478 m_an m_as m_ai e10 (Nat.le_of_ble_eq_true rfl) (Nat.le_of_ble_eq_true rfl) dX3_takeFrom_47 (fun H locs hM => ?_)
            obtain rfl := so1 h
            exact bz_vret (pc := 50) X hM hr hlk dX3_takeFrom_50 (Nat.le_of_ble_eq_true rfl) (Nat.le_of_ble_eq_true rfl)
theorem rX3_takeFrom {M : Mm} {a0 : Nat} {a1 : Nat} {a2 : Int32} {a3 : Int32} {a4 : Int32} {r9 : Mm} (h : fX3_takeFrom M a0 a1 a2 a3 a4 = some r9) : ∃ fs, M[a0]? = some (.inr (3, fs)) := by
  unfold fX3_takeFrom at h
  obtain ⟨_, e1, _⟩ := ob h
  exact gC_spec e1
theorem ctX3_takeFrom (l : Launch) {P : PT} {M : Mm} {a0 : Nat} {a1 : Nat} {a2 : Int32} {a3 : Int32} {a4 : Int32} {M9 : Mm} (h : fX3_takeFrom M a0 a1 a2 a3 a4 = some M9) : Ct l yX3_takeFrom cX3_takeFrom 5 none 1 0 P [.ref (pB P + a0), .ref (pB P + a1), .int a2, .int a3, .int a4] M none M9 :=
  Ct.mk (by decide +kernel) (Nat.le_of_ble_eq_true rfl) (fun p e s m args below meth c hX => wX3_takeFrom hX M a0 a1 a2 a3 a4 h)
