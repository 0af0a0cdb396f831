set_option maxHeartbeats 4000000 in
set_option maxRecDepth 100000 in
theorem wjX10_onTape_12 {p : Program} {l : Launch} {e : Env} {s : State} {m : MethodId} {args : Array Value} {below : List Frame} {meth : Method} {c : Code} {P : PT} {N : Nat}  {r9 : Int32} {M9 : Mm} (hX : Cy p s m args c meth cX10_onTape 3 RX10 "onTape" (some .int) P)   (M : Mm) (x0 : Nat)  (h : jX10_onTape_12 N M x0 = some (r9, M9)) : Wq p l e s m args below meth c 4 0 (some (.int r9)) M9 3 P 0 12 [(0, .ref (pB P + x0))] [] M := by
  unfold jX10_onTape_12 at h
  have hX0 := hX
  obtain ⟨X, hr, hlk, hnm⟩ := hX0
  have hx := X.1.1
  have hb := X.1.2.1
  intro H locs ls hM hl
  refine lv_aload_n (pc := 12) hx hb dX10_onTape_12 rfl (lv_at hl 0 rfl) ?_
  refine lv_iconst (pc := 13) (v := (1 : Int32)) hx hb dX10_onTape_13 (by decide) ?_
  obtain ⟨v2, M3, e1, h⟩ := ob2 h
  obtain ⟨fs4, hb5⟩ := (rX10_error e1)
  refine bz_callV1 (pc := 14) (As := [.int (1 : Int32)]) (rest := []) X hM hl.1 k_RX10_78 (ctX10_error l e1) rfl hb5 rfl rfl ⟨(Nat.le_of_ble_eq_true rfl), (Nat.le_of_ble_eq_true rfl)⟩ (Nat.le_of_ble_eq_true rfl) ⟨(Nat.le_of_ble_eq_true rfl), (Nat.le_of_ble_eq_true rfl)⟩ dX10_onTape_14 (fun H locs hM => ?_)
  obtain ⟨rfl, rfl⟩ := so2 h
  exact bz_iret (pc := 17) X hM hr hlk dX10_onTape_17 (Nat.le_of_ble_eq_true rfl) (Nat.le_of_ble_eq_true rfl)
set_option maxHeartbeats 4000000 in
set_option maxRecDepth 100000 in
theorem wX10_onTape {p : Program} {l : Launch} {e : Env} {s : State} {m : MethodId} {args : Array Value} {below : List Frame} {meth : Method} {c : Code} {P : PT} {N : Nat}  {r9 : Int32} {M9 : Mm} (hX : Cy p s m args c meth cX10_onTape 3 RX10 "onTape" (some .int) P)  (M : Mm) (a0 : Nat) (a1 : Int32) (a2 : Int32) (h : fX10_onTape N M a0 a1 a2 = some (r9, M9)) : Wq p l e s m args below meth c 4 0 (some (.int r9)) M9 3 P 0 0 [(0, .ref (pB P + a0)), (1, .int a1), (2, .int a2)] [] M := by
  unfold fX10_onTape at h
  obtain ⟨_, _, h⟩ := ob h
  have hX0 := hX
  obtain ⟨X, hr, hlk, hnm⟩ := hX0
  have hx := X.1.1
  have hb := X.1.2.1
  intro H locs ls hM hl
  refine lv_aload_n (pc := 0) hx hb dX10_onTape_0 rfl (lv_at hl 0 rfl) ?_
  refine lv_iload_n (pc := 1) hx hb dX10_onTape_1 rfl (lv_at hl 1 rfl) ?_
  obtain ⟨v2, e1, h⟩ := ob h
  obtain ⟨fs3, hb4⟩ := (rX10_isBar e1)
  refine bz_callV1 (pc := 2) (As := [.int a1]) (rest := []) X hM hl.1 k_RX10_100 (ctX10_isBar l e1) rfl hb4 rfl rfl ⟨(Nat.le_of_ble_eq_true rfl), (Nat.le_of_ble_eq_true rfl)⟩ (Nat.le_of_ble_eq_true rfl) ⟨(Nat.le_of_ble_eq_true rfl), (Nat.le_of_ble_eq_true rfl)⟩ dX10_onTape_2 (fun H locs hM => ?_)
  refine lv_if_eq (pc := 5) (tgt := 12) hx hb dX10_onTape_5 (by decide) (fun hc => ?_) (fun hc => ?_)
  · have h := if_t hc h
    exact wjX10_onTape_12 hX _ _ h H locs ls hM (lv_sub hl [0] rfl)
  · have h := if_f hc h
    refine lv_iload_n (pc := 8) hx hb dX10_onTape_8 rfl (lv_at hl 2 rfl) ?_
    refine lv_if_ge (pc := 9) (tgt := 18) hx hb dX10_onTape_9 (by decide) (fun hc => ?_) (fun hc => ?_)
    · have h := if_t hc h
      refine lv_aload_n (pc := 18) hx hb dX10_onTape_18 rfl (lv_at hl 0 rfl) ?_
      obtain ⟨q5, e6, h⟩ := ob h
      refine bz_getQ (pc := 19) X hM fl_RX10_49 e6 dX10_onTape_19 ?_
      refine lv_aload_n (pc := 22) hx hb dX10_onTape_22 rfl (lv_at hl 0 rfl) ?_
      obtain ⟨q7, e8, h⟩ := ob h
      refine bz_getQ (pc := 23) X hM fl_RX10_10 e8 dX10_onTape_23 ?_
      refine lv_iload_n (pc := 26) hx hb dX10_onTape_26 rfl (lv_at hl 1 rfl) ?_
      obtain ⟨M10, e9, h⟩ := ob h
      obtain ⟨fs11, hb12⟩ := (rX7_lay e9)
      refine bz_callV0 (pc := 27) (As := [.ref (pB P + q7), .int a1]) (rest := []) X hM hl.1 k_RX10_133 (ctX7_lay l e9) rfl hb12 rfl rfl ⟨(Nat.le_of_ble_eq_true rfl), (Nat.le_of_ble_eq_true rfl)⟩ (Nat.le_of_ble_eq_true rfl) ⟨(Nat.le_of_ble_eq_true rfl), (Nat.le_of_ble_eq_true rfl)⟩ dX10_onTape_27 (fun H locs hM => ?_)
      refine lv_iload_n (pc := 30) hx hb dX10_onTape_30 rfl (lv_at hl 2 rfl) ?_
      refine lv_aload_n (pc := 31) hx hb dX10_onTape_31 rfl (lv_at hl 0 rfl) ?_
      obtain ⟨q13, e14, h⟩ := ob h
      refine bz_getQ (pc := 32) X hM fl_RX10_49 e14 dX10_onTape_32 ?_
      obtain ⟨q15, e16, h⟩ := ob h
      refine bz_getQ (pc := 35) X hM fl_RX10_143 e16 dX10_onTape_35 ?_
      obtain ⟨v18, e17, h⟩ := ob h
      obtain ⟨fs19, hb20⟩ := (rX3_size e17)
      refine bz_callV1 (pc := 38) (As := []) (rest := [.int a2]) X hM hl.1 k_RX10_96 (ctX3_size l e17) rfl hb20 rfl rfl ⟨(Nat.le_of_ble_eq_true rfl), (Nat.le_of_ble_eq_true rfl)⟩ (Nat.le_of_ble_eq_true rfl) ⟨(Nat.le_of_ble_eq_true rfl), (Nat.le_of_ble_eq_true rfl)⟩ dX10_onTape_38 (fun H locs hM => ?_)
      refine lv_icmp_lt (pc := 41) (tgt := 50) hx hb dX10_onTape_41 (by decide) (fun hc => ?_) (fun hc => ?_)
      · have h := if_t hc h
        refine lv_aload_n (pc := 50) hx hb dX10_onTape_50 rfl (lv_at hl 0 rfl) ?_
        obtain ⟨q21, e22, h⟩ := ob h
        refine bz_getQ (pc := 51) X hM fl_RX10_49 e22 dX10_onTape_51 ?_
        obtain ⟨q23, e24, h⟩ := ob h
        refine bz_getQ (pc := 54) X hM fl_RX10_143 e24 dX10_onTape_54 ?_
        refine lv_iload_n (pc := 57) hx hb dX10_onTape_57 rfl (lv_at hl 2 rfl) ?_
        obtain ⟨v26, e25, h⟩ := ob h
        obtain ⟨fs27, hb28⟩ := (rX3_at e25)
        refine bz_callV1 (pc := 58) (As := [.int a2]) (rest := []) X hM hl.1 k_RX10_121 (ctX3_at l e25) rfl hb28 rfl rfl ⟨(Nat.le_of_ble_eq_true rfl), (Nat.le_of_ble_eq_true rfl)⟩ (Nat.le_of_ble_eq_true rfl) ⟨(Nat.le_of_ble_eq_true rfl), (Nat.le_of_ble_eq_true rfl)⟩ dX10_onTape_58 (fun H locs hM => ?_)
        obtain ⟨rfl, rfl⟩ := so2 h
        exact bz_iret (pc := 61) X hM hr hlk dX10_onTape_61 (Nat.le_of_ble_eq_true rfl) (Nat.le_of_ble_eq_true rfl)
      · have h := if_f hc h
        refine lv_aload_n (pc := 44) hx hb dX10_onTape_44 rfl (lv_at hl 0 rfl) ?_
        refine lv_iconst (pc := 45) (v := (2 : Int32)) hx hb dX10_onTape_45 (by decide) ?_
        obtain ⟨v30, M31, e29, h⟩ := ob2 h
        obtain ⟨fs32, hb33⟩ := (rX10_error e29)
        refine bz_callV1 (pc := 46) (As := [.int (2 : Int32)]) (rest := []) X hM hl.1 k_RX10_78 (ctX10_error l e29) rfl hb33 rfl rfl ⟨(Nat.le_of_ble_eq_true rfl), (Nat.le_of_ble_eq_true rfl)⟩ (Nat.le_of_ble_eq_true rfl) ⟨(Nat.le_of_ble_eq_true rfl), (Nat.le_of_ble_eq_true rfl)⟩ dX10_onTape_46 (fun H locs hM => ?_)
        obtain ⟨rfl, rfl⟩ := so2 h
        exact bz_iret (pc := 49) X hM hr hlk dX10_onTape_49 (Nat.le_of_ble_eq_true rfl) (Nat.le_of_ble_eq_true rfl)
    · have h := if_f hc h
      exact wjX10_onTape_12 hX _ _ h H locs ls hM (lv_sub hl [0] rfl)
theorem rX10_onTape {N : Nat} {M : Mm} {a0 : Nat} {a1 : Int32} {a2 : Int32} {r9 : Int32 × Mm} (h : fX10_onTape N M a0 a1 a2 = some r9) : ∃ fs, M[a0]? = some (.inr (10, fs)) := by
  unfold fX10_onTape at h
  obtain ⟨_, e1, _⟩ := ob h
  exact gC_spec e1
theorem ctX10_onTape (l : Launch) {P : PT} {N : Nat} {M : Mm} {a0 : Nat} {a1 : Int32} {a2 : Int32} {r9 : Int32} {M9 : Mm} (h : fX10_onTape N M a0 a1 a2 = some (r9, M9)) : Ct l yX10_onTape cX10_onTape 3 (some .int) 4 0 P [.ref (pB P + a0), .int a1, .int a2] M (some (.int r9)) M9 :=
  Ct.mk (by decide +kernel) (Nat.le_of_ble_eq_true rfl) (fun p e s m args below meth c hX => wX10_onTape hX M a0 a1 a2 h)
set_option maxHeartbeats 4000000 in
set_option maxRecDepth 100000 in
theorem wBX11_taped_31 {p : Program} {l : Launch} {e : Env} {s : State} {m : MethodId} {args : Array Value} {below : List Frame} {meth : Method} {c : Code} {P : PT} {N : Nat} {K2 : Mm → Nat → Int32 → Int32 → Int32 → Option (Int32)} {K31 : Mm → Nat → Int32 → Int32 → Int32 → Int32 → Int32 → Option (Int32)}  {r9 : Int32} (hX : Cy p s m args c meth cX11_taped 6 RX11 "taped" (some .int) P)  (hK2 : ∀ (M : Mm) (x0 : Nat) (x1 : Int32) (x2 : Int32) (x3 : Int32), K2 M x0 x1 x2 x3 = some r9 → Wq p l e s m args below meth c 2 0 (some (.int r9)) M 6 P 0 2 [(0, .ref (pB P + x0)), (1, .int x1), (2, .int x2), (3, .int x3)] [] M) (hK31 : ∀ (M : Mm) (x0 : Nat) (x1 : Int32) (x2 : Int32) (x3 : Int32) (x4 : Int32) (x5 : Int32), K31 M x0 x1 x2 x3 x4 x5 = some r9 → Wq p l e s m args below meth c 2 0 (some (.int r9)) M 6 P 0 31 [(0, .ref (pB P + x0)), (1, .int x1), (2, .int x2), (3, .int x3), (4, .int x4), (5, .int x5)] [] M) (M : Mm) (x0 : Nat) (x1 : Int32) (x2 : Int32) (x3 : Int32) (x4 : Int32) (x5 : Int32)  (h : BX11_taped_31 N K2 K31 M x0 x1 x2 x3 x4 x5 = some r9) : Wq p l e s m args below meth c 2 0 (some (.int r9)) M 6 P 0 31 [(0, .ref (pB P + x0)), (1, .int x1), (2, .int x2), (3, .int x3), (4, .int x4), (5, .int x5)] [] M := by
  unfold BX11_taped_31 at h
  have hX0 := hX
  obtain ⟨X, hr, hlk, hnm⟩ := hX0
  have hx := X.1.1
  have hb := X.1.2.1
  intro H locs ls hM hl
  refine lv_iload (pc := 31) hx hb dX11_taped_31 (lv_at hl 5 rfl) ?_
  refine lv_aload_n (pc := 33) hx hb dX11_taped_33 rfl (lv_at hl 0 rfl) ?_
  obtain ⟨q1, e2, h⟩ := ob h
  refine bz_getQ (pc := 34) X hM fl_RX11_9 e2 dX11_taped_34 ?_
  refine lv_iconst (pc := 37) (v := (1 : Int32)) hx hb dX11_taped_37 (by decide) ?_
  obtain ⟨v3, e4, h⟩ := ob h
  refine bz_iald (pc := 38) X hM e4 dX11_taped_38 ?_
  refine lv_icmp_ge (pc := 39) (tgt := 79) hx hb dX11_taped_39 (by decide) (fun hc => ?_) (fun hc => ?_)
  · have h := if_t hc h
    refine lv_iload (pc := 79) hx hb dX11_taped_79 (lv_at hl 4 rfl) ?_
    refine lv_iload_n (pc := 81) hx hb dX11_taped_81 rfl (lv_at hl 2 rfl) ?_
    refine lv_icmp_ne (pc := 82) (tgt := 87) hx hb dX11_taped_82 (by decide) (fun hc => ?_) (fun hc => ?_)
    · have h := if_f hc h
      refine lv_iinc (pc := 87) (v := (x3 + (1 : Int32))) (lv' := [(3, .int (x3 + (1 : Int32))), (0, .ref (pB P + x0)), (1, .int x1), (2, .int x2), (4, .int x4), (5, .int x5)]) hx hb dX11_taped_87 hl (k := 3) rfl rfl (by decide) rfl (fun ls hl => ?_)
      refine lv_goto (pc := 90) (tgt := 2) hx hb dX11_taped_90 (by decide) ?_
      exact hK2 _ _ _ _ _ h H locs ls hM (lv_sub hl [1, 2, 3, 0] rfl)
    · have h := if_t hc h
      refine lv_iload_n (pc := 85) hx hb dX11_taped_85 rfl (lv_at hl 3 rfl) ?_
      obtain rfl := so1 h
      exact bz_iret (pc := 86) X hM hr hlk dX11_taped_86 (Nat.le_of_ble_eq_true rfl) (Nat.le_of_ble_eq_true rfl)
  · have h := if_f hc h
    refine lv_iload (pc := 42) hx hb dX11_taped_42 (lv_at hl 4 rfl) ?_
    refine lv_aload_n (pc := 44) hx hb dX11_taped_44 rfl (lv_at hl 0 rfl) ?_
    refine lv_iload (pc := 45) hx hb dX11_taped_45 (lv_at hl 5 rfl) ?_
    refine lv_iconst (pc := 47) (v := (0 : Int32)) hx hb dX11_taped_47 (by decide) ?_
    obtain ⟨v6, e5, h⟩ := ob h
    obtain ⟨fs7, hb8⟩ := (rX11_ring e5)
    refine bz_callV1 (pc := 48) (As := [.int x5, .int (0 : Int32)]) (rest := [.int x4]) X hM hl.1 k_RX11_87 (ctX11_ring l e5) rfl hb8 rfl rfl ⟨(Nat.le_of_ble_eq_true rfl), (Nat.le_of_ble_eq_true rfl)⟩ (Nat.le_of_ble_eq_true rfl) ⟨(Nat.le_of_ble_eq_true rfl), (Nat.le_of_ble_eq_true rfl)⟩ dX11_taped_48 (fun H locs hM => ?_)
    refine lv_iload_n (pc := 51) hx hb dX11_taped_51 rfl (lv_at hl 1 rfl) ?_
    refine lv_icmp_ne (pc := 52) (tgt := 69) hx hb dX11_taped_52 (by decide) (fun hc => ?_) (fun hc => ?_)
    · have h := if_f hc h
      refine lv_iconst (pc := 69) (v := (0 : Int32)) hx hb dX11_taped_69 (by decide) ?_
      refine lv_iadd (pc := 70) hx hb dX11_taped_70 ?_
      refine lv_istore (pc := 71) (lv' := [(4, .int (x4 + (0 : Int32))), (0, .ref (pB P + x0)), (1, .int x1), (2, .int x2), (3, .int x3), (5, .int x5)]) hx hb dX11_taped_71 hl (by decide) rfl (fun ls hl => ?_)
      refine lv_iinc (pc := 73) (v := (x5 + (1 : Int32))) (lv' := [(5, .int (x5 + (1 : Int32))), (4, .int (x4 + (0 : Int32))), (0, .ref (pB P + x0)), (1, .int x1), (2, .int x2), (3, .int x3)]) hx hb dX11_taped_73 hl (k := 5) rfl rfl (by decide) rfl (fun ls hl => ?_)
      refine lv_goto (pc := 76) (tgt := 31) hx hb dX11_taped_76 (by decide) ?_
      exact hK31 _ _ _ _ _ _ _ h H locs ls hM (lv_sub hl [2, 3, 4, 5, 1, 0] rfl)
    · have h := if_t hc h
      refine lv_aload_n (pc := 55) hx hb dX11_taped_55 rfl (lv_at hl 0 rfl) ?_
      refine lv_iload (pc := 56) hx hb dX11_taped_56 (lv_at hl 5 rfl) ?_
      refine lv_iload_n (pc := 58) hx hb dX11_taped_58 rfl (lv_at hl 3 rfl) ?_
      obtain ⟨v10, e9, h⟩ := ob h
      obtain ⟨fs11, hb12⟩ := (rX11_isAhead e9)
      refine bz_callV1 (pc := 59) (As := [.int x5, .int x3]) (rest := [.int x4]) X hM hl.1 k_RX11_94 (ctX11_isAhead l e9) rfl hb12 rfl rfl ⟨(Nat.le_of_ble_eq_true rfl), (Nat.le_of_ble_eq_true rfl)⟩ (Nat.le_of_ble_eq_true rfl) ⟨(Nat.le_of_ble_eq_true rfl), (Nat.le_of_ble_eq_true rfl)⟩ dX11_taped_59 (fun H locs hM => ?_)
      refine lv_if_eq (pc := 62) (tgt := 69) hx hb dX11_taped_62 (by decide) (fun hc => ?_) (fun hc => ?_)
      · have h := if_t hc h
        refine lv_iconst (pc := 69) (v := (0 : Int32)) hx hb dX11_taped_69 (by decide) ?_
        refine lv_iadd (pc := 70) hx hb dX11_taped_70 ?_
        refine lv_istore (pc := 71) (lv' := [(4, .int (x4 + (0 : Int32))), (0, .ref (pB P + x0)), (1, .int x1), (2, .int x2), (3, .int x3), (5, .int x5)]) hx hb dX11_taped_71 hl (by decide) rfl (fun ls hl => ?_)
        refine lv_iinc (pc := 73) (v := (x5 + (1 : Int32))) (lv' := [(5, .int (x5 + (1 : Int32))), (4, .int (x4 + (0 : Int32))), (0, .ref (pB P + x0)), (1, .int x1), (2, .int x2), (3, .int x3)]) hx hb dX11_taped_73 hl (k := 5) rfl rfl (by decide) rfl (fun ls hl => ?_)
        refine lv_goto (pc := 76) (tgt := 31) hx hb dX11_taped_76 (by decide) ?_
        exact hK31 _ _ _ _ _ _ _ h H locs ls hM (lv_sub hl [2, 3, 4, 5, 1, 0] rfl)
      · have h := if_f hc h
        refine lv_iconst (pc := 65) (v := (1 : Int32)) hx hb dX11_taped_65 (by decide) ?_
        refine lv_goto (pc := 66) (tgt := 70) hx hb dX11_taped_66 (by decide) ?_
        refine lv_iadd (pc := 70) hx hb dX11_taped_70 ?_
        refine lv_istore (pc := 71) (lv' := [(4, .int (x4 + (1 : Int32))), (0, .ref (pB P + x0)), (1, .int x1), (2, .int x2), (3, .int x3), (5, .int x5)]) hx hb dX11_taped_71 hl (by decide) rfl (fun ls hl => ?_)
        refine lv_iinc (pc := 73) (v := (x5 + (1 : Int32))) (lv' := [(5, .int (x5 + (1 : Int32))), (4, .int (x4 + (1 : Int32))), (0, .ref (pB P + x0)), (1, .int x1), (2, .int x2), (3, .int x3)]) hx hb dX11_taped_73 hl (k := 5) rfl rfl (by decide) rfl (fun ls hl => ?_)
        refine lv_goto (pc := 76) (tgt := 31) hx hb dX11_taped_76 (by decide) ?_
        exact hK31 _ _ _ _ _ _ _ h H locs ls hM (lv_sub hl [2, 3, 4, 5, 1, 0] rfl)
set_option maxHeartbeats 4000000 in
set_option maxRecDepth 100000 in
theorem wLX11_taped_31 {p : Program} {l : Launch} {e : Env} {s : State} {m : MethodId} {args : Array Value} {below : List Frame} {meth : Method} {c : Code} {P : PT} {N : Nat} {K2 : Mm → Nat → Int32 → Int32 → Int32 → Option (Int32)}  {r9 : Int32} (hX : Cy p s m args c meth cX11_taped 6 RX11 "taped" (some .int) P)  (hK2 : ∀ (M : Mm) (x0 : Nat) (x1 : Int32) (x2 : Int32) (x3 : Int32), K2 M x0 x1 x2 x3 = some r9 → Wq p l e s m args below meth c 2 0 (some (.int r9)) M 6 P 0 2 [(0, .ref (pB P + x0)), (1, .int x1), (2, .int x2), (3, .int x3)] [] M) : ∀ (n : Nat) (M : Mm) (x0 : Nat) (x1 : Int32) (x2 : Int32) (x3 : Int32) (x4 : Int32) (x5 : Int32) , LX11_taped_31 N K2 n M x0 x1 x2 x3 x4 x5 = some r9 → Wq p l e s m args below meth c 2 0 (some (.int r9)) M 6 P 0 31 [(0, .ref (pB P + x0)), (1, .int x1), (2, .int x2), (3, .int x3), (4, .int x4), (5, .int x5)] [] M := by
  intro n
  induction n with
  | zero => intro M x0 x1 x2 x3 x4 x5 h; cases h
  | succ n ih => intro M x0 x1 x2 x3 x4 x5 h; exact wBX11_taped_31 hX hK2 ih M x0 x1 x2 x3 x4 x5 h
set_option maxHeartbeats 4000000 in
set_option maxRecDepth 100000 in
theorem wBX11_taped_2 {p : Program} {l : Launch} {e : Env} {s : State} {m : MethodId} {args : Array Value} {below : List Frame} {meth : Method} {c : Code} {P : PT} {N : Nat} {K2 : Mm → Nat → Int32 → Int32 → Int32 → Option (Int32)}  {r9 : Int32} (hX : Cy p s m args c meth cX11_taped 6 RX11 "taped" (some .int) P)  (hK2 : ∀ (M : Mm) (x0 : Nat) (x1 : Int32) (x2 : Int32) (x3 : Int32), K2 M x0 x1 x2 x3 = some r9 → Wq p l e s m args below meth c 2 0 (some (.int r9)) M 6 P 0 2 [(0, .ref (pB P + x0)), (1, .int x1), (2, .int x2), (3, .int x3)] [] M) (M : Mm) (x0 : Nat) (x1 : Int32) (x2 : Int32) (x3 : Int32)  (h : BX11_taped_2 N K2 M x0 x1 x2 x3 = some r9) : Wq p l e s m args below meth c 2 0 (some (.int r9)) M 6 P 0 2 [(0, .ref (pB P + x0)), (1, .int x1), (2, .int x2), (3, .int x3)] [] M := by
  unfold BX11_taped_2 at h
  have hX0 := hX
  obtain ⟨X, hr, hlk, hnm⟩ := hX0
  have hx := X.1.1
  have hb := X.1.2.1
  intro H locs ls hM hl
  refine lv_iload_n (pc := 2) hx hb dX11_taped_2 rfl (lv_at hl 3 rfl) ?_
  refine lv_aload_n (pc := 3) hx hb dX11_taped_3 rfl (lv_at hl 0 rfl) ?_
  obtain ⟨q1, e2, h⟩ := ob h
  refine bz_getQ (pc := 4) X hM fl_RX11_9 e2 dX11_taped_4 ?_
  refine lv_iconst (pc := 7) (v := (1 : Int32)) hx hb dX11_taped_7 (by decide) ?_
  obtain ⟨v3, e4, h⟩ := ob h
  refine bz_iald (pc := 8) X hM e4 dX11_taped_8 ?_
  refine lv_icmp_ge (pc := 9) (tgt := 93) hx hb dX11_taped_9 (by decide) (fun hc => ?_) (fun hc => ?_)
  · have h := if_t hc h
    refine lv_iconst (pc := 93) (v := (-1 : Int32)) hx hb dX11_taped_93 (by decide) ?_
    obtain rfl := so1 h
    exact bz_iret (pc := 94) X hM hr hlk dX11_taped_94 (Nat.le_of_ble_eq_true rfl) (Nat.le_of_ble_eq_true rfl)
  · have h := if_f hc h
    refine lv_aload_n (pc := 12) hx hb dX11_taped_12 rfl (lv_at hl 0 rfl) ?_
    refine lv_iload_n (pc := 13) hx hb dX11_taped_13 rfl (lv_at hl 3 rfl) ?_
    refine lv_iconst (pc := 14) (v := (0 : Int32)) hx hb dX11_taped_14 (by decide) ?_
    obtain ⟨v6, e5, h⟩ := ob h
    obtain ⟨fs7, hb8⟩ := (rX11_ring e5)
    refine bz_callV1 (pc := 15) (As := [.int x3, .int (0 : Int32)]) (rest := []) X hM hl.1 k_RX11_87 (ctX11_ring l e5) rfl hb8 rfl rfl ⟨(Nat.le_of_ble_eq_true rfl), (Nat.le_of_ble_eq_true rfl)⟩ (Nat.le_of_ble_eq_true rfl) ⟨(Nat.le_of_ble_eq_true rfl), (Nat.le_of_ble_eq_true rfl)⟩ dX11_taped_15 (fun H locs hM => ?_)
    refine lv_iload_n (pc := 18) hx hb dX11_taped_18 rfl (lv_at hl 1 rfl) ?_
    refine lv_icmp_eq (pc := 19) (tgt := 25) hx hb dX11_taped_19 (by decide) (fun hc => ?_) (fun hc => ?_)
    · have h := if_t hc h
      refine lv_iconst (pc := 25) (v := (0 : Int32)) hx hb dX11_taped_25 (by decide) ?_
      refine lv_istore (pc := 26) (lv' := [(4, .int (0 : Int32)), (0, .ref (pB P + x0)), (1, .int x1), (2, .int x2), (3, .int x3)]) hx hb dX11_taped_26 hl (by decide) rfl (fun ls hl => ?_)
      refine lv_iconst (pc := 28) (v := (0 : Int32)) hx hb dX11_taped_28 (by decide) ?_
      refine lv_istore (pc := 29) (lv' := [(5, .int (0 : Int32)), (4, .int (0 : Int32)), (0, .ref (pB P + x0)), (1, .int x1), (2, .int x2), (3, .int x3)]) hx hb dX11_taped_29 hl (by decide) rfl (fun ls hl => ?_)
      exact wLX11_taped_31 hX hK2 _ _ _ _ _ _ _ _ h H locs ls hM (lv_sub hl [2, 3, 4, 5, 1, 0] rfl)
    · have h := if_f hc h
      refine lv_goto (pc := 22) (tgt := 87) hx hb dX11_taped_22 (by decide) ?_
      refine lv_iinc (pc := 87) (v := (x3 + (1 : Int32))) (lv' := [(3, .int (x3 + (1 : Int32))), (0, .ref (pB P + x0)), (1, .int x1), (2, .int x2)]) hx hb dX11_taped_87 hl (k := 3) rfl rfl (by decide) rfl (fun ls hl => ?_)
      refine lv_goto (pc := 90) (tgt := 2) hx hb dX11_taped_90 (by decide) ?_
      exact hK2 _ _ _ _ _ h H locs ls hM (lv_sub hl [1, 2, 3, 0] rfl)
set_option maxHeartbeats 4000000 in
set_option maxRecDepth 100000 in
theorem wLX11_taped_2 {p : Program} {l : Launch} {e : Env} {s : State} {m : MethodId} {args : Array Value} {below : List Frame} {meth : Method} {c : Code} {P : PT} {N : Nat}  {r9 : Int32} (hX : Cy p s m args c meth cX11_taped 6 RX11 "taped" (some .int) P)   : ∀ (n : Nat) (M : Mm) (x0 : Nat) (x1 : Int32) (x2 : Int32) (x3 : Int32) , LX11_taped_2 N n M x0 x1 x2 x3 = some r9 → Wq p l e s m args below meth c 2 0 (some (.int r9)) M 6 P 0 2 [(0, .ref (pB P + x0)), (1, .int x1), (2, .int x2), (3, .int x3)] [] M := by
  intro n
  induction n with
  | zero => intro M x0 x1 x2 x3 h; cases h
  | succ n ih => intro M x0 x1 x2 x3 h; exact wBX11_taped_2 hX ih M x0 x1 x2 x3 h
set_option maxHeartbeats 4000000 in
set_option maxRecDepth 100000 in
theorem wX11_taped {p : Program} {l : Launch} {e : Env} {s : State} {m : MethodId} {args : Array Value} {below : List Frame} {meth : Method} {c : Code} {P : PT} {N : Nat}  {r9 : Int32} (hX : Cy p s m args c meth cX11_taped 6 RX11 "taped" (some .int) P)  (M : Mm) (a0 : Nat) (a1 : Int32) (a2 : Int32) (h : fX11_taped N M a0 a1 a2 = some r9) : Wq p l e s m args below meth c 2 0 (some (.int r9)) M 6 P 0 0 [(0, .ref (pB P + a0)), (1, .int a1), (2, .int a2)] [] M := by
  unfold fX11_taped at h
  obtain ⟨_, _, h⟩ := ob h
  have hX0 := hX
  obtain ⟨X, hr, hlk, hnm⟩ := hX0
  have hx := X.1.1
  have hb := X.1.2.1
  intro H locs ls hM hl
  refine lv_iconst (pc := 0) (v := (0 : Int32)) hx hb dX11_taped_0 (by decide) ?_
  refine lv_istore_n (pc := 1) (lv' := [(3, .int (0 : Int32)), (0, .ref (pB P + a0)), (1, .int a1), (2, .int a2)]) hx hb dX11_taped_1 rfl hl (by decide) rfl (fun ls hl => ?_)
  exact wLX11_taped_2 hX _ _ _ _ _ _ h H locs ls hM (lv_sub hl [1, 2, 3, 0] rfl)
theorem rX11_taped {N : Nat} {M : Mm} {a0 : Nat} {a1 : Int32} {a2 : Int32} {r9 : Int32} (h : fX11_taped N M a0 a1 a2 = some r9) : ∃ fs, M[a0]? = some (.inr (11, fs)) := by
  unfold fX11_taped at h
  obtain ⟨_, e1, _⟩ := ob h
  exact gC_spec e1
theorem ctX11_taped (l : Launch) {P : PT} {N : Nat} {M : Mm} {a0 : Nat} {a1 : Int32} {a2 : Int32} {r9 : Int32} (h : fX11_taped N M a0 a1 a2 = some r9) : Ct l yX11_taped cX11_taped 6 (some .int) 2 0 P [.ref (pB P + a0), .int a1, .int a2] M (some (.int r9)) M :=
  Ct.mk (by decide +kernel) (Nat.le_of_ble_eq_true rfl) (fun p e s m args below meth c hX => wX11_taped hX M a0 a1 a2 h)
set_option maxHeartbeats 4000000 in
set_option maxRecDepth 100000 in
theorem wjX11_onTape_12 {p : Program} {l : Launch} {e : Env} {s : State} {m : MethodId} {args : Array Value} {below : List Frame} {meth : Method} {c : Code} {P : PT} {N : Nat}  {r9 : Int32} {M9 : Mm} (hX : Cy p s m args c meth cX11_onTape 4 RX11 "onTape" (some .int) P)   (M : Mm) (x0 : Nat)  (h : jX11_onTape_12 N M x0 = some (r9, M9)) : Wq p l e s m args below meth c 3 0 (some (.int r9)) M9 4 P 0 12 [(0, .ref (pB P + x0))] [] M := by
  unfold jX11_onTape_12 at h
  have hX0 := hX
  obtain ⟨X, hr, hlk, hnm⟩ := hX0
  have hx := X.1.1
  have hb := X.1.2.1
  intro H locs ls hM hl
  refine lv_aload_n (pc := 12) hx hb dX11_onTape_12 rfl (lv_at hl 0 rfl) ?_
  refine lv_iconst (pc := 13) (v := (1 : Int32)) hx hb dX11_onTape_13 (by decide) ?_
  obtain ⟨v2, M3, e1, h⟩ := ob2 h
  obtain ⟨fs4, hb5⟩ := (rX11_error e1)
  refine bz_callV1 (pc := 14) (As := [.int (1 : Int32)]) (rest := []) X hM hl.1 k_RX11_73 (ctX11_error l e1) rfl hb5 rfl rfl ⟨(Nat.le_of_ble_eq_true rfl), (Nat.le_of_ble_eq_true rfl)⟩ (Nat.le_of_ble_eq_true rfl) ⟨(Nat.le_of_ble_eq_true rfl), (Nat.le_of_ble_eq_true rfl)⟩ dX11_onTape_14 (fun H locs hM => ?_)
  obtain ⟨rfl, rfl⟩ := so2 h
  exact bz_iret (pc := 17) X hM hr hlk dX11_onTape_17 (Nat.le_of_ble_eq_true rfl) (Nat.le_of_ble_eq_true rfl)
set_option maxHeartbeats 4000000 in
set_option maxRecDepth 100000 in
theorem wX11_onTape {p : Program} {l : Launch} {e : Env} {s : State} {m : MethodId} {args : Array Value} {below : List Frame} {meth : Method} {c : Code} {P : PT} {N : Nat}  {r9 : Int32} {M9 : Mm} (hX : Cy p s m args c meth cX11_onTape 4 RX11 "onTape" (some .int) P)  (M : Mm) (a0 : Nat) (a1 : Int32) (a2 : Int32) (h : fX11_onTape N M a0 a1 a2 = some (r9, M9)) : Wq p l e s m args below meth c 3 0 (some (.int r9)) M9 4 P 0 0 [(0, .ref (pB P + a0)), (1, .int a1), (2, .int a2)] [] M := by
  unfold fX11_onTape at h
  obtain ⟨_, _, h⟩ := ob h
  have hX0 := hX
  obtain ⟨X, hr, hlk, hnm⟩ := hX0
  have hx := X.1.1
  have hb := X.1.2.1
  intro H locs ls hM hl
  refine lv_aload_n (pc := 0) hx hb dX11_onTape_0 rfl (lv_at hl 0 rfl) ?_
  refine lv_iload_n (pc := 1) hx hb dX11_onTape_1 rfl (lv_at hl 1 rfl) ?_
  obtain ⟨v2, e1, h⟩ := ob h
  obtain ⟨fs3, hb4⟩ := (rX11_isBar e1)
  refine bz_callV1 (pc := 2) (As := [.int a1]) (rest := []) X hM hl.1 k_RX11_65 (ctX11_isBar l e1) rfl hb4 rfl rfl ⟨(Nat.le_of_ble_eq_true rfl), (Nat.le_of_ble_eq_true rfl)⟩ (Nat.le_of_ble_eq_true rfl) ⟨(Nat.le_of_ble_eq_true rfl), (Nat.le_of_ble_eq_true rfl)⟩ dX11_onTape_2 (fun H locs hM => ?_)
  refine lv_if_eq (pc := 5) (tgt := 12) hx hb dX11_onTape_5 (by decide) (fun hc => ?_) (fun hc => ?_)
  · have h := if_t hc h
    exact wjX11_onTape_12 hX _ _ h H locs ls hM (lv_sub hl [0] rfl)
  · have h := if_f hc h
    refine lv_iload_n (pc := 8) hx hb dX11_onTape_8 rfl (lv_at hl 2 rfl) ?_
    refine lv_if_ge (pc := 9) (tgt := 18) hx hb dX11_onTape_9 (by decide) (fun hc => ?_) (fun hc => ?_)
    · have h := if_t hc h
      refine lv_aload_n (pc := 18) hx hb dX11_onTape_18 rfl (lv_at hl 0 rfl) ?_
      refine lv_iload_n (pc := 19) hx hb dX11_onTape_19 rfl (lv_at hl 1 rfl) ?_
      refine lv_iload_n (pc := 20) hx hb dX11_onTape_20 rfl (lv_at hl 2 rfl) ?_
      obtain ⟨v6, e5, h⟩ := ob h
      obtain ⟨fs7, hb8⟩ := (rX11_taped e5)
      refine bz_callV1 (pc := 21) (As := [.int a1, .int a2]) (rest := []) X hM hl.1 k_RX11_108 (ctX11_taped l e5) rfl hb8 rfl rfl ⟨(Nat.le_of_ble_eq_true rfl), (Nat.le_of_ble_eq_true rfl)⟩ (Nat.le_of_ble_eq_true rfl) ⟨(Nat.le_of_ble_eq_true rfl), (Nat.le_of_ble_eq_true rfl)⟩ dX11_onTape_21 (fun H locs hM => ?_)
      refine lv_istore_n (pc := 24) (lv' := [(3, .int v6), (0, .ref (pB P + a0)), (1, .int a1), (2, .int a2)]) hx hb dX11_onTape_24 rfl hl (by decide) rfl (fun ls hl => ?_)
      refine lv_iload_n (pc := 25) hx hb dX11_onTape_25 rfl (lv_at hl 0 rfl) ?_
      refine lv_if_ge (pc := 26) (tgt := 37) hx hb dX11_onTape_26 (by decide) (fun hc => ?_) (fun hc => ?_)
      · have h := if_t hc h
        refine lv_iload_n (pc := 37) hx hb dX11_onTape_37 rfl (lv_at hl 0 rfl) ?_
        obtain ⟨rfl, rfl⟩ := so2 h
        exact bz_iret (pc := 38) X hM hr hlk dX11_onTape_38 (Nat.le_of_ble_eq_true rfl) (Nat.le_of_ble_eq_true rfl)
      · have h := if_f hc h
        refine lv_aload_n (pc := 29) hx hb dX11_onTape_29 rfl (lv_at hl 1 rfl) ?_
        refine lv_iconst (pc := 30) (v := (2 : Int32)) hx hb dX11_onTape_30 (by decide) ?_
        obtain ⟨v10, M11, e9, h⟩ := ob2 h
        obtain ⟨fs12, hb13⟩ := (rX11_error e9)
        refine bz_callV1 (pc := 31) (As := [.int (2 : Int32)]) (rest := []) X hM hl.1 k_RX11_73 (ctX11_error l e9) rfl hb13 rfl rfl ⟨(Nat.le_of_ble_eq_true rfl), (Nat.le_of_ble_eq_true rfl)⟩ (Nat.le_of_ble_eq_true rfl) ⟨(Nat.le_of_ble_eq_true rfl), (Nat.le_of_ble_eq_true rfl)⟩ dX11_onTape_31 (fun H locs hM => ?_)
        refine lv_goto (pc := 34) (tgt := 38) hx hb dX11_onTape_34 (by decide) ?_
        obtain ⟨rfl, rfl⟩ := so2 h
        exact bz_iret (pc := 38) X hM hr hlk dX11_onTape_38 (Nat.le_of_ble_eq_true rfl) (Nat.le_of_ble_eq_true rfl)
    · have h := if_f hc h
      exact wjX11_onTape_12 hX _ _ h H locs ls hM (lv_sub hl [0] rfl)
theorem rX11_onTape {N : Nat} {M : Mm} {a0 : Nat} {a1 : Int32} {a2 : Int32} {r9 : Int32 × Mm} (h : fX11_onTape N M a0 a1 a2 = some r9) : ∃ fs, M[a0]? = some (.inr (11, fs)) := by
  unfold fX11_onTape at h
  obtain ⟨_, e1, _⟩ := ob h
  exact gC_spec e1
theorem ctX11_onTape (l : Launch) {P : PT} {N : Nat} {M : Mm} {a0 : Nat} {a1 : Int32} {a2 : Int32} {r9 : Int32} {M9 : Mm} (h : fX11_onTape N M a0 a1 a2 = some (r9, M9)) : Ct l yX11_onTape cX11_onTape 4 (some .int) 3 0 P [.ref (pB P + a0), .int a1, .int a2] M (some (.int r9)) M9 :=
  Ct.mk (by decide +kernel) (Nat.le_of_ble_eq_true rfl) (fun p e s m args below meth c hX => wX11_onTape hX M a0 a1 a2 h)
set_option maxHeartbeats 4000000 in
set_option maxRecDepth 100000 in
theorem wX10_isLine {p : Program} {l : Launch} {e : Env} {s : State} {m : MethodId} {args : Array Value} {below : List Frame} {meth : Method} {c : Code} {P : PT}  {r9 : Int32} (hX : Cy p s m args c meth cX10_isLine 1 RX10 "isLine" (some .boolean) P)  (M : Mm) (a0 : Int32) (h : fX10_isLine M a0 = some r9) : Wq p l e s m args below meth c 1 0 (some (.int r9)) M 1 P 0 0 [(0, .int a0)] [] M := by
  unfold fX10_isLine at h
  have hX0 := hX
  obtain ⟨X, hr, hlk, hnm⟩ := hX0
  have hx := X.1.1
  have hb := X.1.2.1
  intro H locs ls hM hl
  refine lv_iload_n (pc := 0) hx hb dX10_isLine_0 rfl (lv_at hl 0 rfl) ?_
  refine lv_iconst (pc := 1) (v := (0 : Int32)) hx hb dX10_isLine_1 (by decide) ?_
  refine lv_sipush (pc := 2) (v := (999 : Int32)) hx hb dX10_isLine_2 (by decide) ?_
  obtain ⟨v2, e1, h⟩ := ob h
  refine bz_callS1 (pc := 5) (As := [.int a0, .int (0 : Int32), .int (999 : Int32)]) (rest := []) X hM hl.1 k_RX10_74 (ctX10_within l e1) rfl rfl ⟨(Nat.le_of_ble_eq_true rfl), (Nat.le_of_ble_eq_true rfl)⟩ (Nat.le_of_ble_eq_true rfl) ⟨(Nat.le_of_ble_eq_true rfl), (Nat.le_of_ble_eq_true rfl)⟩ dX10_isLine_5 (fun H locs hM => ?_)
  obtain ⟨v3, e4, h⟩ := ob h
  obtain rfl := so1 h
  exact bz_zretz (pc := 8) X hM hr hlk e4 dX10_isLine_8 (Nat.le_of_ble_eq_true rfl) (Nat.le_of_ble_eq_true rfl)
theorem ctX10_isLine (l : Launch) {P : PT} {M : Mm} {a0 : Int32} {r9 : Int32} (h : fX10_isLine M a0 = some r9) : Ct l yX10_isLine cX10_isLine 1 (some .boolean) 1 0 P [.int a0] M (some (.int r9)) M :=
  Ct.mk (by decide +kernel) (Nat.le_of_ble_eq_true rfl) (fun p e s m args below meth c hX => wX10_isLine hX M a0 h)
set_option maxHeartbeats 4000000 in
set_option maxRecDepth 100000 in
theorem wX6_textOf {p : Program} {l : Launch} {e : Env} {s : State} {m : MethodId} {args : Array Value} {below : List Frame} {meth : Method} {c : Code} {P : PT}  {r9 : Option Nat} (hX : Cy p s m args c meth cX6_textOf 2 RX6 "textOf" (some (.object "BarsTogether$Text")) P)  (M : Mm) (a0 : Nat) (a1 : Int32) (h : fX6_textOf M a0 a1 = some r9) : Wq p l e s m args below meth c 0 0 (some (rO P r9)) M 2 P 0 0 [(0, .ref (pB P + a0)), (1, .int a1)] [] M := by
  unfold fX6_textOf at h
  obtain ⟨_, _, h⟩ := ob h
  have hX0 := hX
  obtain ⟨X, hr, hlk, hnm⟩ := hX0
  have hx := X.1.1
  have hb := X.1.2.1
  intro H locs ls hM hl
  refine lv_iload_n (pc := 0) hx hb dX6_textOf_0 rfl (lv_at hl 1 rfl) ?_
  refine lv_if_lt (pc := 1) (tgt := 22) hx hb dX6_textOf_1 (by decide) (fun hc => ?_) (fun hc => ?_)
  · have h := if_t hc h
    refine lv_null (pc := 22) hx hb dX6_textOf_22 ?_
    obtain rfl := so1 h
    exact bz_aret (pc := 23) (r := none) X hM hr hlk dX6_textOf_23 (Nat.le_of_ble_eq_true rfl) (Nat.le_of_ble_eq_true rfl)
  · have h := if_f hc h
    refine lv_iload_n (pc := 4) hx hb dX6_textOf_4 rfl (lv_at hl 1 rfl) ?_
    refine lv_aload_n (pc := 5) hx hb dX6_textOf_5 rfl (lv_at hl 0 rfl) ?_
    obtain ⟨q1, e2, h⟩ := ob h
    refine bz_getQ (pc := 6) X hM fl_RX6_37 e2 dX6_textOf_6 ?_
    obtain ⟨v3, e4, h⟩ := ob h
    refine bz_alen (pc := 9) X hM e4 dX6_textOf_9 ?_
    refine lv_icmp_ge (pc := 10) (tgt := 22) hx hb dX6_textOf_10 (by decide) (fun hc => ?_) (fun hc => ?_)
    · have h := if_t hc h
      refine lv_null (pc := 22) hx hb dX6_textOf_22 ?_
      obtain rfl := so1 h
      exact bz_aret (pc := 23) (r := none) X hM hr hlk dX6_textOf_23 (Nat.le_of_ble_eq_true rfl) (Nat.le_of_ble_eq_true rfl)
    · have h := if_f hc h
      refine lv_aload_n (pc := 13) hx hb dX6_textOf_13 rfl (lv_at hl 0 rfl) ?_
      obtain ⟨q5, e6, h⟩ := ob h
      refine bz_getQ (pc := 14) X hM fl_RX6_37 e6 dX6_textOf_14 ?_
      refine lv_iload_n (pc := 17) hx hb dX6_textOf_17 rfl (lv_at hl 1 rfl) ?_
      obtain ⟨r7, e8, h⟩ := ob h
      refine bz_aald (pc := 18) (t := 2) X hM (by decide) e8 dX6_textOf_18 ?_
      refine lv_goto (pc := 19) (tgt := 23) hx hb dX6_textOf_19 (by decide) ?_
      obtain rfl := so1 h
      exact bz_aret (pc := 23) X hM hr hlk dX6_textOf_23 (Nat.le_of_ble_eq_true rfl) (Nat.le_of_ble_eq_true rfl)
theorem rX6_textOf {M : Mm} {a0 : Nat} {a1 : Int32} {r9 : Option Nat} (h : fX6_textOf M a0 a1 = some r9) : ∃ fs, M[a0]? = some (.inr (6, fs)) := by
  unfold fX6_textOf at h
  obtain ⟨_, e1, _⟩ := ob h
  exact gC_spec e1
theorem ctX6_textOf (l : Launch) {P : PT} {M : Mm} {a0 : Nat} {a1 : Int32} {r9 : Option Nat} (h : fX6_textOf M a0 a1 = some r9) : Ct l yX6_textOf cX6_textOf 2 (some (.object "BarsTogether$Text")) 0 0 P [.ref (pB P + a0), .int a1] M (some (rO P r9)) M :=
  Ct.mk (by decide +kernel) (Nat.le_of_ble_eq_true rfl) (fun p e s m args below meth c hX => wX6_textOf hX M a0 a1 h)
set_option maxHeartbeats 4000000 in
set_option maxRecDepth 100000 in
theorem wJ9_floorMod_7cf53 {p : Program} {l : Launch} {e : Env} {s : State} {m : MethodId} {args : Array Value} {below : List Frame} {meth : Method} {c : Code} {P : PT}  {r9 : Int32} (hX : Cy p s m args c meth cJ9_floorMod_7cf53 3 RJ9 "floorMod" (some .int) P)  (M : Mm) (a0 : Int32) (a1 : Int32) (h : fJ9_floorMod_7cf53 M a0 a1 = some r9) : Wq p l e s m args below meth c 0 0 (some (.int r9)) M 3 P 0 0 [(0, .int a0), (1, .int a1)] [] M := by
  unfold fJ9_floorMod_7cf53 at h
  have hX0 := hX
  obtain ⟨X, hr, hlk, hnm⟩ := hX0
  have hx := X.1.1
  have hb := X.1.2.1
  intro H locs ls hM hl
  refine lv_iload_n (pc := 0) hx hb dJ9_floorMod_7cf53_0 rfl (lv_at hl 0 rfl) ?_
  refine lv_iload_n (pc := 1) hx hb dJ9_floorMod_7cf53_1 rfl (lv_at hl 1 rfl) ?_
  obtain ⟨v1, e2, h⟩ := ob h
  refine bz_imod (pc := 2) hx hb e2 dJ9_floorMod_7cf53_2 ?_
  refine lv_istore_n (pc := 3) (lv' := [(2, .int v1), (0, .int a0), (1, .int a1)]) hx hb dJ9_floorMod_7cf53_3 rfl hl (by decide) rfl (fun ls hl => ?_)
  refine lv_iload_n (pc := 4) hx hb dJ9_floorMod_7cf53_4 rfl (lv_at hl 1 rfl) ?_
  refine lv_iload_n (pc := 5) hx hb dJ9_floorMod_7cf53_5 rfl (lv_at hl 2 rfl) ?_
  refine lv_ixor (pc := 6) hx hb dJ9_floorMod_7cf53_6 ?_
  refine lv_if_ge (pc := 7) (tgt := 18) hx hb dJ9_floorMod_7cf53_7 (by decide) (fun hc => ?_) (fun hc => ?_)
  · have h := if_t hc h
    refine lv_iload_n (pc := 18) hx hb dJ9_floorMod_7cf53_18 rfl (lv_at hl 0 rfl) ?_
    obtain rfl := so1 h
    exact bz_iret (pc := 19) X hM hr hlk dJ9_floorMod_7cf53_19 (Nat.le_of_ble_eq_true rfl) (Nat.le_of_ble_eq_true rfl)
  · have h := if_f hc h
    refine lv_iload_n (pc := 10) hx hb dJ9_floorMod_7cf53_10 rfl (lv_at hl 0 rfl) ?_
    refine lv_if_eq (pc := 11) (tgt := 18) hx hb dJ9_floorMod_7cf53_11 (by decide) (fun hc => ?_) (fun hc => ?_)
    · have h := if_t hc h
      refine lv_iload_n (pc := 18) hx hb dJ9_floorMod_7cf53_18 rfl (lv_at hl 0 rfl) ?_
      obtain rfl := so1 h
      exact bz_iret (pc := 19) X hM hr hlk dJ9_floorMod_7cf53_19 (Nat.le_of_ble_eq_true rfl) (Nat.le_of_ble_eq_true rfl)
    · have h := if_f hc h
      refine lv_iload_n (pc := 14) hx hb dJ9_floorMod_7cf53_14 rfl (lv_at hl 0 rfl) ?_
      refine lv_iload_n (pc := 15) hx hb dJ9_floorMod_7cf53_15 rfl (lv_at hl 2 rfl) ?_
      refine lv_iadd (pc := 16) hx hb dJ9_floorMod_7cf53_16 ?_
      obtain rfl := so1 h
      exact bz_iret (pc := 17) X hM hr hlk dJ9_floorMod_7cf53_17 (Nat.le_of_ble_eq_true rfl) (Nat.le_of_ble_eq_true rfl)
theorem ctJ9_floorMod_7cf53 (l : Launch) {P : PT} {M : Mm} {a0 : Int32} {a1 : Int32} {r9 : Int32} (h : fJ9_floorMod_7cf53 M a0 a1 = some r9) : Ct l yJ9_floorMod_7cf53 cJ9_floorMod_7cf53 3 (some .int) 0 0 P [.int a0, .int a1] M (some (.int r9)) M :=
  Ct.mk (by decide +kernel) (Nat.le_of_ble_eq_true rfl) (fun p e s m args below meth c hX => wJ9_floorMod_7cf53 hX M a0 a1 h)
set_option maxHeartbeats 4000000 in
set_option maxRecDepth 100000 in
theorem wX3_takeLast {p : Program} {l : Launch} {e : Env} {s : State} {m : MethodId} {args : Array Value} {below : List Frame} {meth : Method} {c : Code} {P : PT}  {r9 : Int32} {M9 : Mm} (hX : Cy p s m args c meth cX3_takeLast 1 RX3 "takeLast" (some .int) P)  (M : Mm) (a0 : Nat) (h : fX3_takeLast M a0 = some (r9, M9)) : Wq p l e s m args below meth c 0 0 (some (.int r9)) M9 1 P 0 0 [(0, .ref (pB P + a0))] [] M := by
  unfold fX3_takeLast at h
  obtain ⟨_, _, h⟩ := ob h
  have hX0 := hX
  obtain ⟨X, hr, hlk, hnm⟩ := hX0
  have hx := X.1.1
  have hb := X.1.2.1
  intro H locs ls hM hl
  refine lv_aload_n (pc := 0) hx hb dX3_takeLast_0 rfl (lv_at hl 0 rfl) ?_
  obtain ⟨v1, e2, h⟩ := ob h
  refine bz_getI (pc := 1) X hM fl_RX3_19 e2 dX3_takeLast_1 ?_
  refine lv_if_le (pc := 4) (tgt := 19) hx hb dX3_takeLast_4 (by decide) (fun hc => ?_) (fun hc => ?_)
  · have h := if_t hc h
    refine lv_iconst (pc := 19) (v := (0 : Int32)) hx hb dX3_takeLast_19 (by decide) ?_
    obtain ⟨rfl, rfl⟩ := so2 h
    exact bz_iret (pc := 20) X hM hr hlk dX3_takeLast_20 (Nat.le_of_ble_eq_true rfl) (Nat.le_of_ble_eq_true rfl)
  · have h := if_f hc h
    refine lv_aload_n (pc := 7) hx hb dX3_takeLast_7 rfl (lv_at hl 0 rfl) ?_
    obtain ⟨v3, e4, h⟩ := ob h
    refine bz_getI (pc := 8) X hM fl_RX3_19 e4 dX3_takeLast_8 ?_
    refine lv_aload_n (pc := 11) hx hb dX3_takeLast_11 rfl (lv_at hl 0 rfl) ?_
    obtain ⟨q5, e6, h⟩ := ob h
    refine bz_getQ (pc := 12) X hM fl_RX3_13 e6 dX3_takeLast_12 ?_
    obtain ⟨v7, e8, h⟩ := ob h
    refine bz_alen (pc := 15) X hM e8 dX3_takeLast_15 ?_
    refine lv_icmp_le (pc := 16) (tgt := 21) hx hb dX3_takeLast_16 (by decide) (fun hc => ?_) (fun hc => ?_)
    · have h := if_t hc h
      refine lv_aload_n (pc := 21) hx hb dX3_takeLast_21 rfl (lv_at hl 0 rfl) ?_
      refine lv_dup (pc := 22) hx hb dX3_takeLast_22 rfl ?_
      obtain ⟨v9, e10, h⟩ := ob h
      refine bz_getI (pc := 23) X hM fl_RX3_19 e10 dX3_takeLast_23 ?_
      refine lv_iconst (pc := 26) (v := (1 : Int32)) hx hb dX3_takeLast_26 (by decide) ?_
      refine lv_isub (pc := 27) hx hb dX3_takeLast_27 ?_
      obtain ⟨M11, e12, h⟩ := ob h
      refine bz_putI (pc := 28) X hM fp_RX3_19 (Or.inl rfl) e12 dX3_takeLast_28 (fun H locs hM => ?_)
      refine lv_aload_n (pc := 31) hx hb dX3_takeLast_31 rfl (lv_at hl 0 rfl) ?_
      obtain ⟨q13, e14, h⟩ := ob h
      refine bz_getQ (pc := 32) X hM fl_RX3_13 e14 dX3_takeLast_32 ?_
      refine lv_aload_n (pc := 35) hx hb dX3_takeLast_35 rfl (lv_at hl 0 rfl) ?_
      obtain ⟨v15, e16, h⟩ := ob h
      refine bz_getI (pc := 36) X hM fl_RX3_19 e16 dX3_takeLast_36 ?_
      obtain ⟨v17, e18, h⟩ := ob h
      refine bz_iald (pc := 39) X hM e18 dX3_takeLast_39 ?_
      obtain ⟨rfl, rfl⟩ := so2 h
      exact bz_iret (pc := 40) X hM hr hlk dX3_takeLast_40 (Nat.le_of_ble_eq_true rfl) (Nat.le_of_ble_eq_true rfl)
    · have h := if_f hc h
      refine lv_iconst (pc := 19) (v := (0 : Int32)) hx hb dX3_takeLast_19 (by decide) ?_
      obtain ⟨rfl, rfl⟩ := so2 h
      exact bz_iret (pc := 20) X hM hr hlk dX3_takeLast_20 (Nat.le_of_ble_eq_true rfl) (Nat.le_of_ble_eq_true rfl)
theorem rX3_takeLast {M : Mm} {a0 : Nat} {r9 : Int32 × Mm} (h : fX3_takeLast M a0 = some r9) : ∃ fs, M[a0]? = some (.inr (3, fs)) := by
  unfold fX3_takeLast at h
  obtain ⟨_, e1, _⟩ := ob h
  exact gC_spec e1
theorem ctX3_takeLast (l : Launch) {P : PT} {M : Mm} {a0 : Nat} {r9 : Int32} {M9 : Mm} (h : fX3_takeLast M a0 = some (r9, M9)) : Ct l yX3_takeLast cX3_takeLast 1 (some .int) 0 0 P [.ref (pB P + a0)] M (some (.int r9)) M9 :=
  Ct.mk (by decide +kernel) (Nat.le_of_ble_eq_true rfl) (fun p e s m args below meth c hX => wX3_takeLast hX M a0 h)
set_option maxHeartbeats 4000000 in
set_option maxRecDepth 100000 in
theorem wX8_truth {p : Program} {l : Launch} {e : Env} {s : State} {m : MethodId} {args : Array Value} {below : List Frame} {meth : Method} {c : Code} {P : PT}  {r9 : Int32} (hX : Cy p s m args c meth cX8_truth 1 RX8 "truth" (some .int) P)  (M : Mm) (a0 : Int32) (h : fX8_truth M a0 = some r9) : Wq p l e s m args below meth c 0 0 (some (.int r9)) M 1 P 0 0 [(0, .int a0)] [] M := by
  unfold fX8_truth at h
  have hX0 := hX
  obtain ⟨X, hr, hlk, hnm⟩ := hX0
  have hx := X.1.1
  have hb := X.1.2.1
  intro H locs ls hM hl
  refine lv_iload_n (pc := 0) hx hb dX8_truth_0 rfl (lv_at hl 0 rfl) ?_
  refine lv_if_eq (pc := 1) (tgt := 8) hx hb dX8_truth_1 (by decide) (fun hc => ?_) (fun hc => ?_)
  · have h := if_t hc h
    refine lv_iconst (pc := 8) (v := (0 : Int32)) hx hb dX8_truth_8 (by decide) ?_
    obtain rfl := so1 h
    exact bz_iret (pc := 9) X hM hr hlk dX8_truth_9 (Nat.le_of_ble_eq_true rfl) (Nat.le_of_ble_eq_true rfl)
  · have h := if_f hc h
    refine lv_iconst (pc := 4) (v := (1 : Int32)) hx hb dX8_truth_4 (by decide) ?_
    refine lv_goto (pc := 5) (tgt := 9) hx hb dX8_truth_5 (by decide) ?_
    obtain rfl := so1 h
    exact bz_iret (pc := 9) X hM hr hlk dX8_truth_9 (Nat.le_of_ble_eq_true rfl) (Nat.le_of_ble_eq_true rfl)
theorem ctX8_truth (l : Launch) {P : PT} {M : Mm} {a0 : Int32} {r9 : Int32} (h : fX8_truth M a0 = some r9) : Ct l yX8_truth cX8_truth 1 (some .int) 0 0 P [.int a0] M (some (.int r9)) M :=
  Ct.mk (by decide +kernel) (Nat.le_of_ble_eq_true rfl) (fun p e s m args below meth c hX => wX8_truth hX M a0 h)
set_option maxHeartbeats 4000000 in
set_option maxRecDepth 100000 in
theorem wjX8_workedOut_180 {p : Program} {l : Launch} {e : Env} {s : State} {m : MethodId} {args : Array Value} {below : List Frame} {meth : Method} {c : Code} {P : PT}  {r9 : Int32} {M9 : Mm} (hX : Cy p s m args c meth cX8_workedOut 4 RX8 "workedOut" (some .int) P)   (M : Mm)  (s0 : Int32) (h : jX8_workedOut_180 M s0 = some (r9, M9)) : Wq p l e s m args below meth c 1 0 (some (.int r9)) M9 4 P 0 180 [] [.int s0] M := by
  unfold jX8_workedOut_180 at h
  have hX0 := hX
  obtain ⟨X, hr, hlk, hnm⟩ := hX0
  have hx := X.1.1
  have hb := X.1.2.1
  intro H locs ls hM hl
  obtain ⟨v2, e1, h⟩ := ob h
  refine bz_callS1 (pc := 180) (As := [.int s0]) (rest := []) X hM hl.1 k_RX8_43 (ctX8_truth l e1) rfl rfl ⟨(Nat.le_of_ble_eq_true rfl), (Nat.le_of_ble_eq_true rfl)⟩ (Nat.le_of_ble_eq_true rfl) ⟨(Nat.le_of_ble_eq_true rfl), (Nat.le_of_ble_eq_true rfl)⟩ dX8_workedOut_180 (fun H locs hM => ?_)
  obtain ⟨rfl, rfl⟩ := so2 h
  exact bz_iret (pc := 183) X hM hr hlk dX8_workedOut_183 (Nat.le_of_ble_eq_true rfl) (Nat.le_of_ble_eq_true rfl)
set_option maxHeartbeats 4000000 in
set_option maxRecDepth 100000 in
theorem wjX8_workedOut_166 {p : Program} {l : Launch} {e : Env} {s : State} {m : MethodId} {args : Array Value} {below : List Frame} {meth : Method} {c : Code} {P : PT}  {r9 : Int32} {M9 : Mm} (hX : Cy p s m args c meth cX8_workedOut 4 RX8 "workedOut" (some .int) P)   (M : Mm)  (s0 : Int32) (h : jX8_workedOut_166 M s0 = some (r9, M9)) : Wq p l e s m args below meth c 1 0 (some (.int r9)) M9 4 P 0 166 [] [.int s0] M := by
  unfold jX8_workedOut_166 at h
  have hX0 := hX
  obtain ⟨X, hr, hlk, hnm⟩ := hX0
  have hx := X.1.1
  have hb := X.1.2.1
  intro H locs ls hM hl
  obtain ⟨v2, e1, h⟩ := ob h
  refine bz_callS1 (pc := 166) (As := [.int s0]) (rest := []) X hM hl.1 k_RX8_43 (ctX8_truth l e1) rfl rfl ⟨(Nat.le_of_ble_eq_true rfl), (Nat.le_of_ble_eq_true rfl)⟩ (Nat.le_of_ble_eq_true rfl) ⟨(Nat.le_of_ble_eq_true rfl), (Nat.le_of_ble_eq_true rfl)⟩ dX8_workedOut_166 (fun H locs hM => ?_)
  obtain ⟨rfl, rfl⟩ := so2 h
  exact bz_iret (pc := 169) X hM hr hlk dX8_workedOut_169 (Nat.le_of_ble_eq_true rfl) (Nat.le_of_ble_eq_true rfl)
set_option maxHeartbeats 4000000 in
set_option maxRecDepth 100000 in
theorem wjX8_workedOut_152 {p : Program} {l : Launch} {e : Env} {s : State} {m : MethodId} {args : Array Value} {below : List Frame} {meth : Method} {c : Code} {P : PT}  {r9 : Int32} {M9 : Mm} (hX : Cy p s m args c meth cX8_workedOut 4 RX8 "workedOut" (some .int) P)   (M : Mm)  (s0 : Int32) (h : jX8_workedOut_152 M s0 = some (r9, M9)) : Wq p l e s m args below meth c 1 0 (some (.int r9)) M9 4 P 0 152 [] [.int s0] M := by
  unfold jX8_workedOut_152 at h
  have hX0 := hX
  obtain ⟨X, hr, hlk, hnm⟩ := hX0
  have hx := X.1.1
  have hb := X.1.2.1
  intro H locs ls hM hl
  obtain ⟨v2, e1, h⟩ := ob h
  refine bz_callS1 (pc := 152) (As := [.int s0]) (rest := []) X hM hl.1 k_RX8_43 (ctX8_truth l e1) rfl rfl ⟨(Nat.le_of_ble_eq_true rfl), (Nat.le_of_ble_eq_true rfl)⟩ (Nat.le_of_ble_eq_true rfl) ⟨(Nat.le_of_ble_eq_true rfl), (Nat.le_of_ble_eq_true rfl)⟩ dX8_workedOut_152 (fun H locs hM => ?_)
  obtain ⟨rfl, rfl⟩ := so2 h
  exact bz_iret (pc := 155) X hM hr hlk dX8_workedOut_155 (Nat.le_of_ble_eq_true rfl) (Nat.le_of_ble_eq_true rfl)
set_option maxHeartbeats 4000000 in
set_option maxRecDepth 100000 in
theorem wjX8_workedOut_138 {p : Program} {l : Launch} {e : Env} {s : State} {m : MethodId} {args : Array Value} {below : List Frame} {meth : Method} {c : Code} {P : PT}  {r9 : Int32} {M9 : Mm} (hX : Cy p s m args c meth cX8_workedOut 4 RX8 "workedOut" (some .int) P)   (M : Mm)  (s0 : Int32) (h : jX8_workedOut_138 M s0 = some (r9, M9)) : Wq p l e s m args below meth c 1 0 (some (.int r9)) M9 4 P 0 138 [] [.int s0] M := by
  unfold jX8_workedOut_138 at h
  have hX0 := hX
  obtain ⟨X, hr, hlk, hnm⟩ := hX0
  have hx := X.1.1
  have hb := X.1.2.1
  intro H locs ls hM hl
  obtain ⟨v2, e1, h⟩ := ob h
  refine bz_callS1 (pc := 138) (As := [.int s0]) (rest := []) X hM hl.1 k_RX8_43 (ctX8_truth l e1) rfl rfl ⟨(Nat.le_of_ble_eq_true rfl), (Nat.le_of_ble_eq_true rfl)⟩ (Nat.le_of_ble_eq_true rfl) ⟨(Nat.le_of_ble_eq_true rfl), (Nat.le_of_ble_eq_true rfl)⟩ dX8_workedOut_138 (fun H locs hM => ?_)
  obtain ⟨rfl, rfl⟩ := so2 h
  exact bz_iret (pc := 141) X hM hr hlk dX8_workedOut_141 (Nat.le_of_ble_eq_true rfl) (Nat.le_of_ble_eq_true rfl)
set_option maxHeartbeats 4000000 in
set_option maxRecDepth 100000 in
theorem wjX8_workedOut_137 {p : Program} {l : Launch} {e : Env} {s : State} {m : MethodId} {args : Array Value} {below : List Frame} {meth : Method} {c : Code} {P : PT}  {r9 : Int32} {M9 : Mm} (hX : Cy p s m args c meth cX8_workedOut 4 RX8 "workedOut" (some .int) P)   (M : Mm)   (h : jX8_workedOut_137 M  = some (r9, M9)) : Wq p l e s m args below meth c 1 0 (some (.int r9)) M9 4 P 0 137 [] [] M := by
  unfold jX8_workedOut_137 at h
  have hX0 := hX
  obtain ⟨X, hr, hlk, hnm⟩ := hX0
  have hx := X.1.1
  have hb := X.1.2.1
  intro H locs ls hM hl
  refine lv_iconst (pc := 137) (v := (0 : Int32)) hx hb dX8_workedOut_137 (by decide) ?_
  exact wjX8_workedOut_138 hX _ _ h H locs ls hM (lv_sub hl [] rfl)
set_option maxHeartbeats 4000000 in
set_option maxRecDepth 100000 in
theorem wjX8_workedOut_121 {p : Program} {l : Launch} {e : Env} {s : State} {m : MethodId} {args : Array Value} {below : List Frame} {meth : Method} {c : Code} {P : PT}  {r9 : Int32} {M9 : Mm} (hX : Cy p s m args c meth cX8_workedOut 4 RX8 "workedOut" (some .int) P)   (M : Mm)  (s0 : Int32) (h : jX8_workedOut_121 M s0 = some (r9, M9)) : Wq p l e s m args below meth c 1 0 (some (.int r9)) M9 4 P 0 121 [] [.int s0] M := by
  unfold jX8_workedOut_121 at h
  have hX0 := hX
  obtain ⟨X, hr, hlk, hnm⟩ := hX0
  have hx := X.1.1
  have hb := X.1.2.1
  intro H locs ls hM hl
  obtain ⟨v2, e1, h⟩ := ob h
  refine bz_callS1 (pc := 121) (As := [.int s0]) (rest := []) X hM hl.1 k_RX8_43 (ctX8_truth l e1) rfl rfl ⟨(Nat.le_of_ble_eq_true rfl), (Nat.le_of_ble_eq_true rfl)⟩ (Nat.le_of_ble_eq_true rfl) ⟨(Nat.le_of_ble_eq_true rfl), (Nat.le_of_ble_eq_true rfl)⟩ dX8_workedOut_121 (fun H locs hM => ?_)
  obtain ⟨rfl, rfl⟩ := so2 h
  exact bz_iret (pc := 124) X hM hr hlk dX8_workedOut_124 (Nat.le_of_ble_eq_true rfl) (Nat.le_of_ble_eq_true rfl)
set_option maxHeartbeats 4000000 in
set_option maxRecDepth 100000 in
theorem wjX8_workedOut_116 {p : Program} {l : Launch} {e : Env} {s : State} {m : MethodId} {args : Array Value} {below : List Frame} {meth : Method} {c : Code} {P : PT}  {r9 : Int32} {M9 : Mm} (hX : Cy p s m args c meth cX8_workedOut 4 RX8 "workedOut" (some .int) P)   (M : Mm)   (h : jX8_workedOut_116 M  = some (r9, M9)) : Wq p l e s m args below meth c 1 0 (some (.int r9)) M9 4 P 0 116 [] [] M := by
  unfold jX8_workedOut_116 at h
  have hX0 := hX
  obtain ⟨X, hr, hlk, hnm⟩ := hX0
  have hx := X.1.1
  have hb := X.1.2.1
  intro H locs ls hM hl
  refine lv_iconst (pc := 116) (v := (1 : Int32)) hx hb dX8_workedOut_116 (by decide) ?_
  refine lv_goto (pc := 117) (tgt := 121) hx hb dX8_workedOut_117 (by decide) ?_
  exact wjX8_workedOut_121 hX _ _ h H locs ls hM (lv_sub hl [] rfl)
set_option maxHeartbeats 4000000 in
set_option maxRecDepth 100000 in
theorem wX8_workedOut {p : Program} {l : Launch} {e : Env} {s : State} {m : MethodId} {args : Array Value} {below : List Frame} {meth : Method} {c : Code} {P : PT}  {r9 : Int32} {M9 : Mm} (hX : Cy p s m args c meth cX8_workedOut 4 RX8 "workedOut" (some .int) P)  (M : Mm) (a0 : Nat) (a1 : Int32) (h : fX8_workedOut M a0 a1 = some (r9, M9)) : Wq p l e s m args below meth c 1 0 (some (.int r9)) M9 4 P 0 0 [(0, .ref (pB P + a0)), (1, .int a1)] [] M := by
  unfold fX8_workedOut at h
  obtain ⟨_, _, h⟩ := ob h
  have hX0 := hX
  obtain ⟨X, hr, hlk, hnm⟩ := hX0
  have hx := X.1.1
  have hb := X.1.2.1
  intro H locs ls hM hl
  refine lv_aload_n (pc := 0) hx hb dX8_workedOut_0 rfl (lv_at hl 0 rfl) ?_
  obtain ⟨q1, e2, h⟩ := ob h
  refine bz_getQ (pc := 1) X hM fl_RX8_26 e2 dX8_workedOut_1 ?_
  obtain ⟨v4, M5, e3, h⟩ := ob2 h
  obtain ⟨fs6, hb7⟩ := (rX3_takeLast e3)
  refine bz_callV1 (pc := 4) (As := []) (rest := []) X hM hl.1 k_RX8_40 (ctX3_takeLast l e3) rfl hb7 rfl rfl ⟨(Nat.le_of_ble_eq_true rfl), (Nat.le_of_ble_eq_true rfl)⟩ (Nat.le_of_ble_eq_true rfl) ⟨(Nat.le_of_ble_eq_true rfl), (Nat.le_of_ble_eq_true rfl)⟩ dX8_workedOut_4 (fun H locs hM => ?_)
  refine lv_istore_n (pc := 7) (lv' := [(2, .int v4), (0, .ref (pB P + a0)), (1, .int a1)]) hx hb dX8_workedOut_7 rfl hl (by decide) rfl (fun ls hl => ?_)
  refine lv_aload_n (pc := 8) hx hb dX8_workedOut_8 rfl (lv_at hl 1 rfl) ?_
  obtain ⟨q8, e9, h⟩ := ob h
  refine bz_getQ (pc := 9) X hM fl_RX8_26 e9 dX8_workedOut_9 ?_
  obtain ⟨v11, M12, e10, h⟩ := ob2 h
  obtain ⟨fs13, hb14⟩ := (rX3_takeLast e10)
  refine bz_callV1 (pc := 12) (As := []) (rest := []) X hM hl.1 k_RX8_40 (ctX3_takeLast l e10) rfl hb14 rfl rfl ⟨(Nat.le_of_ble_eq_true rfl), (Nat.le_of_ble_eq_true rfl)⟩ (Nat.le_of_ble_eq_true rfl) ⟨(Nat.le_of_ble_eq_true rfl), (Nat.le_of_ble_eq_true rfl)⟩ dX8_workedOut_12 (fun H locs hM => ?_)
  refine lv_istore_n (pc := 15) (lv' := [(3, .int v11), (2, .int v4), (0, .ref (pB P + a0)), (1, .int a1)]) hx hb dX8_workedOut_15 rfl hl (by decide) rfl (fun ls hl => ?_)
  refine lv_iload_n (pc := 16) hx hb dX8_workedOut_16 rfl (lv_at hl 3 rfl) ?_
  by_cases hs37 : a1 = (37 : Int32)
  · have h := if_t hs37 h
    refine lv_lookup (pc := 17) (off := 191) (tgt := 208) hx hb dX8_workedOut_17 (by decide) (by rw [hs37]; decide) (by decide) ?_
    refine lv_iload_n (pc := 208) hx hb dX8_workedOut_208 rfl (lv_at hl 1 rfl) ?_
    refine lv_if_ne (pc := 209) (tgt := 216) hx hb dX8_workedOut_209 (by decide) (fun hc => ?_) (fun hc => ?_)
    · have h := if_f hc h
      refine lv_iload_n (pc := 216) hx hb dX8_workedOut_216 rfl (lv_at hl 0 rfl) ?_
      refine lv_iload_n (pc := 217) hx hb dX8_workedOut_217 rfl (lv_at hl 1 rfl) ?_
      obtain ⟨v15, e16, h⟩ := ob h
      refine bz_imod (pc := 218) hx hb e16 dX8_workedOut_218 ?_
      obtain ⟨rfl, rfl⟩ := so2 h
      exact bz_iret (pc := 219) X hM hr hlk dX8_workedOut_219 (Nat.le_of_ble_eq_true rfl) (Nat.le_of_ble_eq_true rfl)
    · have h := if_t hc h
      refine lv_iconst (pc := 212) (v := (0 : Int32)) hx hb dX8_workedOut_212 (by decide) ?_
      refine lv_goto (pc := 213) (tgt := 219) hx hb dX8_workedOut_213 (by decide) ?_
      obtain ⟨rfl, rfl⟩ := so2 h
      exact bz_iret (pc := 219) X hM hr hlk dX8_workedOut_219 (Nat.le_of_ble_eq_true rfl) (Nat.le_of_ble_eq_true rfl)
  have h := if_f hs37 h
  by_cases hs38 : a1 = (38 : Int32)
  · have h := if_t hs38 h
    refine lv_lookup (pc := 17) (off := 108) (tgt := 125) hx hb dX8_workedOut_17 (by decide) (by rw [hs38]; decide) (by decide) ?_
    refine lv_iload_n (pc := 125) hx hb dX8_workedOut_125 rfl (lv_at hl 0 rfl) ?_
    refine lv_if_eq (pc := 126) (tgt := 137) hx hb dX8_workedOut_126 (by decide) (fun hc => ?_) (fun hc => ?_)
    · have h := if_t hc h
      exact wjX8_workedOut_137 hX _ h H locs ls hM (lv_sub hl [] rfl)
    · have h := if_f hc h
      refine lv_iload_n (pc := 129) hx hb dX8_workedOut_129 rfl (lv_at hl 1 rfl) ?_
      refine lv_if_eq (pc := 130) (tgt := 137) hx hb dX8_workedOut_130 (by decide) (fun hc => ?_) (fun hc => ?_)
      · have h := if_t hc h
        exact wjX8_workedOut_137 hX _ h H locs ls hM (lv_sub hl [] rfl)
      · have h := if_f hc h
        refine lv_iconst (pc := 133) (v := (1 : Int32)) hx hb dX8_workedOut_133 (by decide) ?_
        refine lv_goto (pc := 134) (tgt := 138) hx hb dX8_workedOut_134 (by decide) ?_
        exact wjX8_workedOut_138 hX _ _ h H locs ls hM (lv_sub hl [] rfl)
  have h := if_f hs38 h
  by_cases hs42 : a1 = (42 : Int32)
  · have h := if_t hs42 h
    refine lv_lookup (pc := 17) (off := 175) (tgt := 192) hx hb dX8_workedOut_17 (by decide) (by rw [hs42]; decide) (by decide) ?_
    refine lv_iload_n (pc := 192) hx hb dX8_workedOut_192 rfl (lv_at hl 0 rfl) ?_
    refine lv_iload_n (pc := 193) hx hb dX8_workedOut_193 rfl (lv_at hl 1 rfl) ?_
    refine lv_imul (pc := 194) hx hb dX8_workedOut_194 ?_
    obtain ⟨rfl, rfl⟩ := so2 h
    exact bz_iret (pc := 195) X hM hr hlk dX8_workedOut_195 (Nat.le_of_ble_eq_true rfl) (Nat.le_of_ble_eq_true rfl)
  have h := if_f hs42 h
  by_cases hs43 : a1 = (43 : Int32)
  · have h := if_t hs43 h
    refine lv_lookup (pc := 17) (off := 167) (tgt := 184) hx hb dX8_workedOut_17 (by decide) (by rw [hs43]; decide) (by decide) ?_
    refine lv_iload_n (pc := 184) hx hb dX8_workedOut_184 rfl (lv_at hl 0 rfl) ?_
    refine lv_iload_n (pc := 185) hx hb dX8_workedOut_185 rfl (lv_at hl 1 rfl) ?_
    refine lv_iadd (pc := 186) hx hb dX8_workedOut_186 ?_
    obtain ⟨rfl, rfl⟩ := so2 h
    exact bz_iret (pc := 187) X hM hr hlk dX8_workedOut_187 (Nat.le_of_ble_eq_true rfl) (Nat.le_of_ble_eq_true rfl)
  have h := if_f hs43 h
  by_cases hs45 : a1 = (45 : Int32)
  · have h := if_t hs45 h
    refine lv_lookup (pc := 17) (off := 171) (tgt := 188) hx hb dX8_workedOut_17 (by decide) (by rw [hs45]; decide) (by decide) ?_
    refine lv_iload_n (pc := 188) hx hb dX8_workedOut_188 rfl (lv_at hl 0 rfl) ?_
    refine lv_iload_n (pc := 189) hx hb dX8_workedOut_189 rfl (lv_at hl 1 rfl) ?_
    refine lv_isub (pc := 190) hx hb dX8_workedOut_190 ?_
    obtain ⟨rfl, rfl⟩ := so2 h
    exact bz_iret (pc := 191) X hM hr hlk dX8_workedOut_191 (Nat.le_of_ble_eq_true rfl) (Nat.le_of_ble_eq_true rfl)
  have h := if_f hs45 h
  by_cases hs47 : a1 = (47 : Int32)
  · have h := if_t hs47 h
    refine lv_lookup (pc := 17) (off := 179) (tgt := 196) hx hb dX8_workedOut_17 (by decide) (by rw [hs47]; decide) (by decide) ?_
    refine lv_iload_n (pc := 196) hx hb dX8_workedOut_196 rfl (lv_at hl 1 rfl) ?_
    refine lv_if_ne (pc := 197) (tgt := 204) hx hb dX8_workedOut_197 (by decide) (fun hc => ?_) (fun hc => ?_)
    · have h := if_f hc h
      refine lv_iload_n (pc := 204) hx hb dX8_workedOut_204 rfl (lv_at hl 0 rfl) ?_
      refine lv_iload_n (pc := 205) hx hb dX8_workedOut_205 rfl (lv_at hl 1 rfl) ?_
      obtain ⟨v17, e18, h⟩ := ob h
      refine bz_idiv (pc := 206) hx hb e18 dX8_workedOut_206 ?_
      obtain ⟨rfl, rfl⟩ := so2 h
      exact bz_iret (pc := 207) X hM hr hlk dX8_workedOut_207 (Nat.le_of_ble_eq_true rfl) (Nat.le_of_ble_eq_true rfl)
    · have h := if_t hc h
      refine lv_iconst (pc := 200) (v := (0 : Int32)) hx hb dX8_workedOut_200 (by decide) ?_
      refine lv_goto (pc := 201) (tgt := 207) hx hb dX8_workedOut_201 (by decide) ?_
      obtain ⟨rfl, rfl⟩ := so2 h
      exact bz_iret (pc := 207) X hM hr hlk dX8_workedOut_207 (Nat.le_of_ble_eq_true rfl) (Nat.le_of_ble_eq_true rfl)
  have h := if_f hs47 h
  by_cases hs60 : a1 = (60 : Int32)
  · have h := if_t hs60 h
    refine lv_lookup (pc := 17) (off := 125) (tgt := 142) hx hb dX8_workedOut_17 (by decide) (by rw [hs60]; decide) (by decide) ?_
    refine lv_iload_n (pc := 142) hx hb dX8_workedOut_142 rfl (lv_at hl 0 rfl) ?_
    refine lv_iload_n (pc := 143) hx hb dX8_workedOut_143 rfl (lv_at hl 1 rfl) ?_
    refine lv_icmp_ge (pc := 144) (tgt := 151) hx hb dX8_workedOut_144 (by decide) (fun hc => ?_) (fun hc => ?_)
    · have h := if_t hc h
      refine lv_iconst (pc := 151) (v := (0 : Int32)) hx hb dX8_workedOut_151 (by decide) ?_
      exact wjX8_workedOut_152 hX _ _ h H locs ls hM (lv_sub hl [] rfl)
    · have h := if_f hc h
      refine lv_iconst (pc := 147) (v := (1 : Int32)) hx hb dX8_workedOut_147 (by decide) ?_
      refine lv_goto (pc := 148) (tgt := 152) hx hb dX8_workedOut_148 (by decide) ?_
      exact wjX8_workedOut_152 hX _ _ h H locs ls hM (lv_sub hl [] rfl)
  have h := if_f hs60 h
  by_cases hs61 : a1 = (61 : Int32)
  · have h := if_t hs61 h
    refine lv_lookup (pc := 17) (off := 139) (tgt := 156) hx hb dX8_workedOut_17 (by decide) (by rw [hs61]; decide) (by decide) ?_
    refine lv_iload_n (pc := 156) hx hb dX8_workedOut_156 rfl (lv_at hl 0 rfl) ?_
    refine lv_iload_n (pc := 157) hx hb dX8_workedOut_157 rfl (lv_at hl 1 rfl) ?_
    refine lv_icmp_ne (pc := 158) (tgt := 165) hx hb dX8_workedOut_158 (by decide) (fun hc => ?_) (fun hc => ?_)
    · have h := if_f hc h
      refine lv_iconst (pc := 165) (v := (0 : Int32)) hx hb dX8_workedOut_165 (by decide) ?_
      exact wjX8_workedOut_166 hX _ _ h H locs ls hM (lv_sub hl [] rfl)
    · have h := if_t hc h
      refine lv_iconst (pc := 161) (v := (1 : Int32)) hx hb dX8_workedOut_161 (by decide) ?_
      refine lv_goto (pc := 162) (tgt := 166) hx hb dX8_workedOut_162 (by decide) ?_
      exact wjX8_workedOut_166 hX _ _ h H locs ls hM (lv_sub hl [] rfl)
  have h := if_f hs61 h
  by_cases hs62 : a1 = (62 : Int32)
  · have h := if_t hs62 h
    refine lv_lookup (pc := 17) (off := 153) (tgt := 170) hx hb dX8_workedOut_17 (by decide) (by rw [hs62]; decide) (by decide) ?_
    refine lv_iload_n (pc := 170) hx hb dX8_workedOut_170 rfl (lv_at hl 0 rfl) ?_
    refine lv_iload_n (pc := 171) hx hb dX8_workedOut_171 rfl (lv_at hl 1 rfl) ?_
    refine lv_icmp_le (pc := 172) (tgt := 179) hx hb dX8_workedOut_172 (by decide) (fun hc => ?_) (fun hc => ?_)
    · have h := if_t hc h
      refine lv_iconst (pc := 179) (v := (0 : Int32)) hx hb dX8_workedOut_179 (by decide) ?_
      exact wjX8_workedOut_180 hX _ _ h H locs ls hM (lv_sub hl [] rfl)
    · have h := if_f hc h
      refine lv_iconst (pc := 175) (v := (1 : Int32)) hx hb dX8_workedOut_175 (by decide) ?_
      refine lv_goto (pc := 176) (tgt := 180) hx hb dX8_workedOut_176 (by decide) ?_
      exact wjX8_workedOut_180 hX _ _ h H locs ls hM (lv_sub hl [] rfl)
  have h := if_f hs62 h
  by_cases hs124 : a1 = (124 : Int32)
  · have h := if_t hs124 h
    refine lv_lookup (pc := 17) (off := 91) (tgt := 108) hx hb dX8_workedOut_17 (by decide) (by rw [hs124]; decide) (by decide) ?_
    refine lv_iload_n (pc := 108) hx hb dX8_workedOut_108 rfl (lv_at hl 0 rfl) ?_
    refine lv_if_ne (pc := 109) (tgt := 116) hx hb dX8_workedOut_109 (by decide) (fun hc => ?_) (fun hc => ?_)
    · have h := if_f hc h
      exact wjX8_workedOut_116 hX _ h H locs ls hM (lv_sub hl [] rfl)
    · have h := if_t hc h
      refine lv_iload_n (pc := 112) hx hb dX8_workedOut_112 rfl (lv_at hl 1 rfl) ?_
      refine lv_if_eq (pc := 113) (tgt := 120) hx hb dX8_workedOut_113 (by decide) (fun hc => ?_) (fun hc => ?_)
      · have h := if_t hc h
        refine lv_iconst (pc := 120) (v := (0 : Int32)) hx hb dX8_workedOut_120 (by decide) ?_
        exact wjX8_workedOut_121 hX _ _ h H locs ls hM (lv_sub hl [] rfl)
      · have h := if_f hc h
        exact wjX8_workedOut_116 hX _ h H locs ls hM (lv_sub hl [] rfl)
  have h := if_f hs124 h
  refine lv_lookup (pc := 17) (off := 203) (tgt := 220) hx hb dX8_workedOut_17 (by decide) (by show Op.lookupswitch.offset [(37, 191), (38, 108), (42, 175), (43, 167), (45, 171), (47, 179), (60, 125), (61, 139), (62, 153), (124, 91)] _ _ = _; rw [lv_osw hs37 (by decide), lv_osw hs38 (by decide), lv_osw hs42 (by decide), lv_osw hs43 (by decide), lv_osw hs45 (by decide), lv_osw hs47 (by decide), lv_osw hs60 (by decide), lv_osw hs61 (by decide), lv_osw hs62 (by decide), lv_osw hs124 (by decide)]; rfl) (by decide) ?_
  refine lv_iconst (pc := 220) (v := (0 : Int32)) hx hb dX8_workedOut_220 (by decide) ?_
  obtain ⟨rfl, rfl⟩ := so2 h
  exact bz_iret (pc := 221) X hM hr hlk dX8_workedOut_221 (Nat.le_of_ble_eq_true rfl) (Nat.le_of_ble_eq_true rfl)
theorem rX8_workedOut {M : Mm} {a0 : Nat} {a1 : Int32} {r9 : Int32 × Mm} (h : fX8_workedOut M a0 a1 = some r9) : ∃ fs, M[a0]? = some (.inr (8, fs)) := by
  unfold fX8_workedOut at h
  obtain ⟨_, e1, _⟩ := ob h
  exact gC_spec e1
theorem ctX8_workedOut (l : Launch) {P : PT} {M : Mm} {a0 : Nat} {a1 : Int32} {r9 : Int32} {M9 : Mm} (h : fX8_workedOut M a0 a1 = some (r9, M9)) : Ct l yX8_workedOut cX8_workedOut 4 (some .int) 1 0 P [.ref (pB P + a0), .int a1] M (some (.int r9)) M9 :=
  Ct.mk (by decide +kernel) (Nat.le_of_ble_eq_true rfl) (fun p e s m args below meth c hX => wX8_workedOut hX M a0 a1 h)
set_option maxHeartbeats 4000000 in
set_option maxRecDepth 100000 in
theorem wjX8_value_183 {p : Program} {l : Launch} {e : Env} {s : State} {m : MethodId} {args : Array Value} {below : List Frame} {meth : Method} {c : Code} {P : PT} {N : Nat} {K10 : Mm → Nat → Int32 → Int32 → Int32 → Int32 → Int32 → Option (Int32 × Mm)}  {r9 : Int32} {M9 : Mm} (hX : Cy p s m args c meth cX8_value 7 RX8 "value" (some .int) P)  (hK10 : ∀ (M : Mm) (x0 : Nat) (x1 : Int32) (x2 : Int32) (x3 : Int32) (x4 : Int32) (x5 : Int32), K10 M x0 x1 x2 x3 x4 x5 = some (r9, M9) → Wq p l e s m args below meth c 2 0 (some (.int r9)) M9 7 P 0 10 [(0, .ref (pB P + x0)), (1, .int x1), (2, .int x2), (3, .int x3), (4, .int x4), (5, .int x5)] [] M) (M : Mm) (x0 : Nat) (x1 : Int32) (x2 : Int32) (x3 : Int32) (x4 : Int32) (x5 : Int32) (s0 : Nat) (s1 : Int32) (h : jX8_value_183 N K10 M x0 x1 x2 x3 x4 x5 s0 s1 = some (r9, M9)) : Wq p l e s m args below meth c 2 0 (some (.int r9)) M9 7 P 0 183 [(0, .ref (pB P + x0)), (1, .int x1), (2, .int x2), (3, .int x3), (4, .int x4), (5, .int x5)] [.int s1, .ref (pB P + s0)] M := by
  unfold jX8_value_183 at h
  have hX0 := hX
  obtain ⟨X, hr, hlk, hnm⟩ := hX0
  have hx := X.1.1
  have hb := X.1.2.1
  intro H locs ls hM hl
  obtain ⟨v2, M3, e1, h⟩ := ob2 h
  obtain ⟨fs4, hb5⟩ := (rX3_add e1)
  refine bz_callV1 (pc := 183) (As := [.int s1]) (rest := []) X hM hl.1 k_RX8_36 (ctX3_add l e1) rfl hb5 rfl rfl ⟨(Nat.le_of_ble_eq_true rfl), (Nat.le_of_ble_eq_true rfl)⟩ (Nat.le_of_ble_eq_true rfl) ⟨(Nat.le_of_ble_eq_true rfl), (Nat.le_of_ble_eq_true rfl)⟩ dX8_value_183 (fun H locs hM => ?_)
  refine lv_pop (pc := 186) hx hb dX8_value_186 rfl ?_
  refine lv_iinc (pc := 187) (v := (x5 + (1 : Int32))) (lv' := [(5, .int (x5 + (1 : Int32))), (0, .ref (pB P + x0)), (1, .int x1), (2, .int x2), (3, .int x3), (4, .int x4)]) hx hb dX8_value_187 hl (k := 5) rfl rfl (by decide) rfl (fun ls hl => ?_)
  refine lv_goto (pc := 190) (tgt := 10) hx hb dX8_value_190 (by decide) ?_
  exact hK10 _ _ _ _ _ _ _ h H locs ls hM (lv_sub hl [1, 2, 3, 4, 5, 0] rfl)
set_option maxHeartbeats 4000000 in
set_option maxRecDepth 100000 in
theorem wjX8_value_152 {p : Program} {l : Launch} {e : Env} {s : State} {m : MethodId} {args : Array Value} {below : List Frame} {meth : Method} {c : Code} {P : PT} {N : Nat} {K10 : Mm → Nat → Int32 → Int32 → Int32 → Int32 → Int32 → Option (Int32 × Mm)}  {r9 : Int32} {M9 : Mm} (hX : Cy p s m args c meth cX8_value 7 RX8 "value" (some .int) P)  (hK10 : ∀ (M : Mm) (x0 : Nat) (x1 : Int32) (x2 : Int32) (x3 : Int32) (x4 : Int32) (x5 : Int32), K10 M x0 x1 x2 x3 x4 x5 = some (r9, M9) → Wq p l e s m args below meth c 2 0 (some (.int r9)) M9 7 P 0 10 [(0, .ref (pB P + x0)), (1, .int x1), (2, .int x2), (3, .int x3), (4, .int x4), (5, .int x5)] [] M) (M : Mm) (x0 : Nat) (x1 : Int32) (x2 : Int32) (x3 : Int32) (x4 : Int32) (x5 : Int32) (s0 : Nat) (s1 : Int32) (h : jX8_value_152 N K10 M x0 x1 x2 x3 x4 x5 s0 s1 = some (r9, M9)) : Wq p l e s m args below meth c 2 0 (some (.int r9)) M9 7 P 0 152 [(0, .ref (pB P + x0)), (1, .int x1), (2, .int x2), (3, .int x3), (4, .int x4), (5, .int x5)] [.int s1, .ref (pB P + s0)] M := by
  unfold jX8_value_152 at h
  have hX0 := hX
  obtain ⟨X, hr, hlk, hnm⟩ := hX0
  have hx := X.1.1
  have hb := X.1.2.1
  intro H locs ls hM hl
  obtain ⟨v2, e1, h⟩ := ob h
  refine bz_callS1 (pc := 152) (As := [.int s1]) (rest := [.ref (pB P + s0)]) X hM hl.1 k_RX8_43 (ctX8_truth l e1) rfl rfl ⟨(Nat.le_of_ble_eq_true rfl), (Nat.le_of_ble_eq_true rfl)⟩ (Nat.le_of_ble_eq_true rfl) ⟨(Nat.le_of_ble_eq_true rfl), (Nat.le_of_ble_eq_true rfl)⟩ dX8_value_152 (fun H locs hM => ?_)
  obtain ⟨v4, M5, e3, h⟩ := ob2 h
  obtain ⟨fs6, hb7⟩ := (rX3_add e3)
  refine bz_callV1 (pc := 155) (As := [.int v2]) (rest := []) X hM hl.1 k_RX8_36 (ctX3_add l e3) rfl hb7 rfl rfl ⟨(Nat.le_of_ble_eq_true rfl), (Nat.le_of_ble_eq_true rfl)⟩ (Nat.le_of_ble_eq_true rfl) ⟨(Nat.le_of_ble_eq_true rfl), (Nat.le_of_ble_eq_true rfl)⟩ dX8_value_155 (fun H locs hM => ?_)
  refine lv_pop (pc := 158) hx hb dX8_value_158 rfl ?_
  refine lv_goto (pc := 159) (tgt := 187) hx hb dX8_value_159 (by decide) ?_
  refine lv_iinc (pc := 187) (v := (x5 + (1 : Int32))) (lv' := [(5, .int (x5 + (1 : Int32))), (0, .ref (pB P + x0)), (1, .int x1), (2, .int x2), (3, .int x3), (4, .int x4)]) hx hb dX8_value_187 hl (k := 5) rfl rfl (by decide) rfl (fun ls hl => ?_)
  refine lv_goto (pc := 190) (tgt := 10) hx hb dX8_value_190 (by decide) ?_
  exact hK10 _ _ _ _ _ _ _ h H locs ls hM (lv_sub hl [1, 2, 3, 4, 5, 0] rfl)
set_option maxHeartbeats 4000000 in
set_option maxRecDepth 100000 in
theorem wBX8_value_10 {p : Program} {l : Launch} {e : Env} {s : State} {m : MethodId} {args : Array Value} {below : List Frame} {meth : Method} {c : Code} {P : PT} {N : Nat} {K10 : Mm → Nat → Int32 → Int32 → Int32 → Int32 → Int32 → Option (Int32 × Mm)}  {r9 : Int32} {M9 : Mm} (hX : Cy p s m args c meth cX8_value 7 RX8 "value" (some .int) P)  (hK10 : ∀ (M : Mm) (x0 : Nat) (x1 : Int32) (x2 : Int32) (x3 : Int32) (x4 : Int32) (x5 : Int32), K10 M x0 x1 x2 x3 x4 x5 = some (r9, M9) → Wq p l e s m args below meth c 2 0 (some (.int r9)) M9 7 P 0 10 [(0, .ref (pB P + x0)), (1, .int x1), (2, .int x2), (3, .int x3), (4, .int x4), (5, .int x5)] [] M) (M : Mm) (x0 : Nat) (x1 : Int32) (x2 : Int32) (x3 : Int32) (x4 : Int32) (x5 : Int32)  (h : BX8_value_10 N K10 M x0 x1 x2 x3 x4 x5 = some (r9, M9)) : Wq p l e s m args below meth c 2 0 (some (.int r9)) M9 7 P 0 10 [(0, .ref (pB P + x0)), (1, .int x1), (2, .int x2), (3, .int x3), (4, .int x4), (5, .int x5)] [] M := by
  unfold BX8_value_10 at h
  have hX0 := hX
  obtain ⟨X, hr, hlk, hnm⟩ := hX0
  have hx := X.1.1
  have hb := X.1.2.1
  intro H locs ls hM hl
  refine lv_iload (pc := 10) hx hb dX8_value_10 (lv_at hl 5 rfl) ?_
  refine lv_aload_n (pc := 12) hx hb dX8_value_12 rfl (lv_at hl 0 rfl) ?_
  obtain ⟨q1, e2, h⟩ := ob h
  refine bz_getQ (pc := 13) X hM fl_RX8_16 e2 dX8_value_13 ?_
  obtain ⟨v4, e3, h⟩ := ob h
  obtain ⟨fs5, hb6⟩ := (rX3_size e3)
  refine bz_callV1 (pc := 16) (As := []) (rest := [.int x5]) X hM hl.1 k_RX8_9 (ctX3_size l e3) rfl hb6 rfl rfl ⟨(Nat.le_of_ble_eq_true rfl), (Nat.le_of_ble_eq_true rfl)⟩ (Nat.le_of_ble_eq_true rfl) ⟨(Nat.le_of_ble_eq_true rfl), (Nat.le_of_ble_eq_true rfl)⟩ dX8_value_16 (fun H locs hM => ?_)
  refine lv_icmp_ge (pc := 19) (tgt := 193) hx hb dX8_value_19 (by decide) (fun hc => ?_) (fun hc => ?_)
  · have h := if_t hc h
    refine lv_aload_n (pc := 193) hx hb dX8_value_193 rfl (lv_at hl 0 rfl) ?_
    obtain ⟨q7, e8, h⟩ := ob h
    refine bz_getQ (pc := 194) X hM fl_RX8_26 e8 dX8_value_194 ?_
    obtain ⟨v10, M11, e9, h⟩ := ob2 h
    obtain ⟨fs12, hb13⟩ := (rX3_takeLast e9)
    refine bz_callV1 (pc := 197) (As := []) (rest := []) X hM hl.1 k_RX8_40 (ctX3_takeLast l e9) rfl hb13 rfl rfl ⟨(Nat.le_of_ble_eq_true rfl), (Nat.le_of_ble_eq_true rfl)⟩ (Nat.le_of_ble_eq_true rfl) ⟨(Nat.le_of_ble_eq_true rfl), (Nat.le_of_ble_eq_true rfl)⟩ dX8_value_197 (fun H locs hM => ?_)
    obtain ⟨rfl, rfl⟩ := so2 h
    exact bz_iret (pc := 200) X hM hr hlk dX8_value_200 (Nat.le_of_ble_eq_true rfl) (Nat.le_of_ble_eq_true rfl)
  · have h := if_f hc h
    refine lv_aload_n (pc := 22) hx hb dX8_value_22 rfl (lv_at hl 0 rfl) ?_
    obtain ⟨q14, e15, h⟩ := ob h
    refine bz_getQ (pc := 23) X hM fl_RX8_16 e15 dX8_value_23 ?_
    refine lv_iload (pc := 26) hx hb dX8_value_26 (lv_at hl 5 rfl) ?_
    obtain ⟨v17, e16, h⟩ := ob h
    obtain ⟨fs18, hb19⟩ := (rX3_at e16)
    refine bz_callV1 (pc := 28) (As := [.int x5]) (rest := []) X hM hl.1 k_RX8_32 (ctX3_at l e16) rfl hb19 rfl rfl ⟨(Nat.le_of_ble_eq_true rfl), (Nat.le_of_ble_eq_true rfl)⟩ (Nat.le_of_ble_eq_true rfl) ⟨(Nat.le_of_ble_eq_true rfl), (Nat.le_of_ble_eq_true rfl)⟩ dX8_value_28 (fun H locs hM => ?_)
    refine lv_istore (pc := 31) (lv' := [(6, .int v17), (0, .ref (pB P + x0)), (1, .int x1), (2, .int x2), (3, .int x3), (4, .int x4), (5, .int x5)]) hx hb dX8_value_31 hl (by decide) rfl (fun ls hl => ?_)
    refine lv_iload (pc := 33) hx hb dX8_value_33 (lv_at hl 0 rfl) ?_
    by_cases hs1033 : v17 = (-33 : Int32)
    · have h := if_t hs1033 h
      refine lv_lookup (pc := 35) (off := 98) (tgt := 133) hx hb dX8_value_35 (by decide) (by rw [hs1033]; decide) (by decide) ?_
      refine lv_aload_n (pc := 133) hx hb dX8_value_133 rfl (lv_at hl 1 rfl) ?_
      obtain ⟨q20, e21, h⟩ := ob h
      refine bz_getQ (pc := 134) X hM fl_RX8_26 e21 dX8_value_134 ?_
      refine lv_aload_n (pc := 137) hx hb dX8_value_137 rfl (lv_at hl 1 rfl) ?_
      obtain ⟨q22, e23, h⟩ := ob h
      refine bz_getQ (pc := 138) X hM fl_RX8_26 e23 dX8_value_138 ?_
      obtain ⟨v25, M26, e24, h⟩ := ob2 h
      obtain ⟨fs27, hb28⟩ := (rX3_takeLast e24)
      refine bz_callV1 (pc := 141) (As := []) (rest := [.ref (pB P + q20)]) X hM hl.1 k_RX8_40 (ctX3_takeLast l e24) rfl hb28 rfl rfl ⟨(Nat.le_of_ble_eq_true rfl), (Nat.le_of_ble_eq_true rfl)⟩ (Nat.le_of_ble_eq_true rfl) ⟨(Nat.le_of_ble_eq_true rfl), (Nat.le_of_ble_eq_true rfl)⟩ dX8_value_141 (fun H locs hM => ?_)
      refine lv_if_ne (pc := 144) (tgt := 151) hx hb dX8_value_144 (by decide) (fun hc => ?_) (fun hc => ?_)
      · have h := if_f hc h
        refine lv_iconst (pc := 151) (v := (0 : Int32)) hx hb dX8_value_151 (by decide) ?_
        exact wjX8_value_152 hX hK10 _ _ _ _ _ _ _ _ _ h H locs ls hM (lv_sub hl [1, 2, 3, 4, 5, 6] rfl)
      · have h := if_t hc h
        refine lv_iconst (pc := 147) (v := (1 : Int32)) hx hb dX8_value_147 (by decide) ?_
        refine lv_goto (pc := 148) (tgt := 152) hx hb dX8_value_148 (by decide) ?_
        exact wjX8_value_152 hX hK10 _ _ _ _ _ _ _ _ _ h H locs ls hM (lv_sub hl [1, 2, 3, 4, 5, 6] rfl)
    have h := if_f hs1033 h
    by_cases hs1004 : v17 = (-4 : Int32)
    · have h := if_t hs1004 h
      refine lv_lookup (pc := 35) (off := 85) (tgt := 120) hx hb dX8_value_35 (by decide) (by rw [hs1004]; decide) (by decide) ?_
      refine lv_aload_n (pc := 120) hx hb dX8_value_120 rfl (lv_at hl 1 rfl) ?_
      obtain ⟨q29, e30, h⟩ := ob h
      refine bz_getQ (pc := 121) X hM fl_RX8_26 e30 dX8_value_121 ?_
      refine lv_iload (pc := 124) hx hb dX8_value_124 (lv_at hl 5 rfl) ?_
      obtain ⟨v32, M33, e31, h⟩ := ob2 h
      obtain ⟨fs34, hb35⟩ := (rX3_add e31)
      refine bz_callV1 (pc := 126) (As := [.int x4]) (rest := []) X hM hl.1 k_RX8_36 (ctX3_add l e31) rfl hb35 rfl rfl ⟨(Nat.le_of_ble_eq_true rfl), (Nat.le_of_ble_eq_true rfl)⟩ (Nat.le_of_ble_eq_true rfl) ⟨(Nat.le_of_ble_eq_true rfl), (Nat.le_of_ble_eq_true rfl)⟩ dX8_value_126 (fun H locs hM => ?_)
      refine lv_pop (pc := 129) hx hb dX8_value_129 rfl ?_
      refine lv_goto (pc := 130) (tgt := 187) hx hb dX8_value_130 (by decide) ?_
      refine lv_iinc (pc := 187) (v := (x5 + (1 : Int32))) (lv' := [(5, .int (x5 + (1 : Int32))), (6, .int v17), (0, .ref (pB P + x0)), (1, .int x1), (2, .int x2), (3, .int x3), (4, .int x4)]) hx hb dX8_value_187 hl (k := 6) rfl rfl (by decide) rfl (fun ls hl => ?_)
      refine lv_goto (pc := 190) (tgt := 10) hx hb dX8_value_190 (by decide) ?_
      exact hK10 _ _ _ _ _ _ _ h H locs ls hM (lv_sub hl [2, 3, 4, 5, 6, 0] rfl)
    have h := if_f hs1004 h
    by_cases hs1003 : v17 = (-3 : Int32)
    · have h := if_t hs1003 h
      refine lv_lookup (pc := 35) (off := 73) (tgt := 108) hx hb dX8_value_35 (by decide) (by rw [hs1003]; decide) (by decide) ?_
      refine lv_aload_n (pc := 108) hx hb dX8_value_108 rfl (lv_at hl 1 rfl) ?_
      obtain ⟨q36, e37, h⟩ := ob h
      refine bz_getQ (pc := 109) X hM fl_RX8_26 e37 dX8_value_109 ?_
      refine lv_iload_n (pc := 112) hx hb dX8_value_112 rfl (lv_at hl 4 rfl) ?_
      obtain ⟨v39, M40, e38, h⟩ := ob2 h
      obtain ⟨fs41, hb42⟩ := (rX3_add e38)
      refine bz_callV1 (pc := 113) (As := [.int x3]) (rest := []) X hM hl.1 k_RX8_36 (ctX3_add l e38) rfl hb42 rfl rfl ⟨(Nat.le_of_ble_eq_true rfl), (Nat.le_of_ble_eq_true rfl)⟩ (Nat.le_of_ble_eq_true rfl) ⟨(Nat.le_of_ble_eq_true rfl), (Nat.le_of_ble_eq_true rfl)⟩ dX8_value_113 (fun H locs hM => ?_)
      refine lv_pop (pc := 116) hx hb dX8_value_116 rfl ?_
      refine lv_goto (pc := 117) (tgt := 187) hx hb dX8_value_117 (by decide) ?_
      refine lv_iinc (pc := 187) (v := (x5 + (1 : Int32))) (lv' := [(5, .int (x5 + (1 : Int32))), (6, .int v17), (0, .ref (pB P + x0)), (1, .int x1), (2, .int x2), (3, .int x3), (4, .int x4)]) hx hb dX8_value_187 hl (k := 6) rfl rfl (by decide) rfl (fun ls hl => ?_)
      refine lv_goto (pc := 190) (tgt := 10) hx hb dX8_value_190 (by decide) ?_
      exact hK10 _ _ _ _ _ _ _ h H locs ls hM (lv_sub hl [2, 3, 4, 5, 6, 0] rfl)
    have h := if_f hs1003 h
    by_cases hs1002 : v17 = (-2 : Int32)
    · have h := if_t hs1002 h
      refine lv_lookup (pc := 35) (off := 61) (tgt := 96) hx hb dX8_value_35 (by decide) (by rw [hs1002]; decide) (by decide) ?_
      refine lv_aload_n (pc := 96) hx hb dX8_value_96 rfl (lv_at hl 1 rfl) ?_
      obtain ⟨q43, e44, h⟩ := ob h
      refine bz_getQ (pc := 97) X hM fl_RX8_26 e44 dX8_value_97 ?_
      refine lv_iload_n (pc := 100) hx hb dX8_value_100 rfl (lv_at hl 3 rfl) ?_
      obtain ⟨v46, M47, e45, h⟩ := ob2 h
      obtain ⟨fs48, hb49⟩ := (rX3_add e45)
      refine bz_callV1 (pc := 101) (As := [.int x2]) (rest := []) X hM hl.1 k_RX8_36 (ctX3_add l e45) rfl hb49 rfl rfl ⟨(Nat.le_of_ble_eq_true rfl), (Nat.le_of_ble_eq_true rfl)⟩ (Nat.le_of_ble_eq_true rfl) ⟨(Nat.le_of_ble_eq_true rfl), (Nat.le_of_ble_eq_true rfl)⟩ dX8_value_101 (fun H locs hM => ?_)
      refine lv_pop (pc := 104) hx hb dX8_value_104 rfl ?_
      refine lv_goto (pc := 105) (tgt := 187) hx hb dX8_value_105 (by decide) ?_
      refine lv_iinc (pc := 187) (v := (x5 + (1 : Int32))) (lv' := [(5, .int (x5 + (1 : Int32))), (6, .int v17), (0, .ref (pB P + x0)), (1, .int x1), (2, .int x2), (3, .int x3), (4, .int x4)]) hx hb dX8_value_187 hl (k := 6) rfl rfl (by decide) rfl (fun ls hl => ?_)
      refine lv_goto (pc := 190) (tgt := 10) hx hb dX8_value_190 (by decide) ?_
      exact hK10 _ _ _ _ _ _ _ h H locs ls hM (lv_sub hl [2, 3, 4, 5, 6, 0] rfl)
    have h := if_f hs1002 h
    by_cases hs1001 : v17 = (-1 : Int32)
    · have h := if_t hs1001 h
      refine lv_lookup (pc := 35) (off := 49) (tgt := 84) hx hb dX8_value_35 (by decide) (by rw [hs1001]; decide) (by decide) ?_
      refine lv_aload_n (pc := 84) hx hb dX8_value_84 rfl (lv_at hl 1 rfl) ?_
      obtain ⟨q50, e51, h⟩ := ob h
      refine bz_getQ (pc := 85) X hM fl_RX8_26 e51 dX8_value_85 ?_
      refine lv_iload_n (pc := 88) hx hb dX8_value_88 rfl (lv_at hl 2 rfl) ?_
      obtain ⟨v53, M54, e52, h⟩ := ob2 h
      obtain ⟨fs55, hb56⟩ := (rX3_add e52)
      refine bz_callV1 (pc := 89) (As := [.int x1]) (rest := []) X hM hl.1 k_RX8_36 (ctX3_add l e52) rfl hb56 rfl rfl ⟨(Nat.le_of_ble_eq_true rfl), (Nat.le_of_ble_eq_true rfl)⟩ (Nat.le_of_ble_eq_true rfl) ⟨(Nat.le_of_ble_eq_true rfl), (Nat.le_of_ble_eq_true rfl)⟩ dX8_value_89 (fun H locs hM => ?_)
      refine lv_pop (pc := 92) hx hb dX8_value_92 rfl ?_
      refine lv_goto (pc := 93) (tgt := 187) hx hb dX8_value_93 (by decide) ?_
      refine lv_iinc (pc := 187) (v := (x5 + (1 : Int32))) (lv' := [(5, .int (x5 + (1 : Int32))), (6, .int v17), (0, .ref (pB P + x0)), (1, .int x1), (2, .int x2), (3, .int x3), (4, .int x4)]) hx hb dX8_value_187 hl (k := 6) rfl rfl (by decide) rfl (fun ls hl => ?_)
      refine lv_goto (pc := 190) (tgt := 10) hx hb dX8_value_190 (by decide) ?_
      exact hK10 _ _ _ _ _ _ _ h H locs ls hM (lv_sub hl [2, 3, 4, 5, 6, 0] rfl)
    have h := if_f hs1001 h
    refine lv_lookup (pc := 35) (off := 127) (tgt := 162) hx hb dX8_value_35 (by decide) (by show Op.lookupswitch.offset [(-33, 98), (-4, 85), (-3, 73), (-2, 61), (-1, 49)] _ _ = _; rw [lv_osw hs1033 (by decide), lv_osw hs1004 (by decide), lv_osw hs1003 (by decide), lv_osw hs1002 (by decide), lv_osw hs1001 (by decide)]; rfl) (by decide) ?_
    refine lv_aload_n (pc := 162) hx hb dX8_value_162 rfl (lv_at hl 1 rfl) ?_
    obtain ⟨q57, e58, h⟩ := ob h
    refine bz_getQ (pc := 163) X hM fl_RX8_26 e58 dX8_value_163 ?_
    refine lv_iload (pc := 166) hx hb dX8_value_166 (lv_at hl 0 rfl) ?_
    refine lv_if_lt (pc := 168) (tgt := 176) hx hb dX8_value_168 (by decide) (fun hc => ?_) (fun hc => ?_)
    · have h := if_t hc h
      refine lv_aload_n (pc := 176) hx hb dX8_value_176 rfl (lv_at hl 1 rfl) ?_
      refine lv_iload (pc := 177) hx hb dX8_value_177 (lv_at hl 0 rfl) ?_
      refine lv_ineg (pc := 179) hx hb dX8_value_179 ?_
      obtain ⟨v60, M61, e59, h⟩ := ob2 h
      obtain ⟨fs62, hb63⟩ := (rX8_workedOut e59)
      refine bz_callV1 (pc := 180) (As := [.int (-v17)]) (rest := [.ref (pB P + q57)]) X hM hl.1 k_RX8_47 (ctX8_workedOut l e59) rfl hb63 rfl rfl ⟨(Nat.le_of_ble_eq_true rfl), (Nat.le_of_ble_eq_true rfl)⟩ (Nat.le_of_ble_eq_true rfl) ⟨(Nat.le_of_ble_eq_true rfl), (Nat.le_of_ble_eq_true rfl)⟩ dX8_value_180 (fun H locs hM => ?_)
      exact wjX8_value_183 hX hK10 _ _ _ _ _ _ _ _ _ h H locs ls hM (lv_sub hl [1, 2, 3, 4, 5, 6] rfl)
    · have h := if_f hc h
      refine lv_iload (pc := 171) hx hb dX8_value_171 (lv_at hl 0 rfl) ?_
      refine lv_goto (pc := 173) (tgt := 183) hx hb dX8_value_173 (by decide) ?_
      exact wjX8_value_183 hX hK10 _ _ _ _ _ _ _ _ _ h H locs ls hM (lv_sub hl [1, 2, 3, 4, 5, 6] rfl)
set_option maxHeartbeats 4000000 in
set_option maxRecDepth 100000 in
theorem wLX8_value_10 {p : Program} {l : Launch} {e : Env} {s : State} {m : MethodId} {args : Array Value} {below : List Frame} {meth : Method} {c : Code} {P : PT} {N : Nat}  {r9 : Int32} {M9 : Mm} (hX : Cy p s m args c meth cX8_value 7 RX8 "value" (some .int) P)   : ∀ (n : Nat) (M : Mm) (x0 : Nat) (x1 : Int32) (x2 : Int32) (x3 : Int32) (x4 : Int32) (x5 : Int32) , LX8_value_10 N n M x0 x1 x2 x3 x4 x5 = some (r9, M9) → Wq p l e s m args below meth c 2 0 (some (.int r9)) M9 7 P 0 10 [(0, .ref (pB P + x0)), (1, .int x1), (2, .int x2), (3, .int x3), (4, .int x4), (5, .int x5)] [] M := by
  intro n
  induction n with
  | zero => intro M x0 x1 x2 x3 x4 x5 h; cases h
  | succ n ih => intro M x0 x1 x2 x3 x4 x5 h; exact wBX8_value_10 hX ih M x0 x1 x2 x3 x4 x5 h
set_option maxHeartbeats 4000000 in
set_option maxRecDepth 100000 in
theorem wX8_value {p : Program} {l : Launch} {e : Env} {s : State} {m : MethodId} {args : Array Value} {below : List Frame} {meth : Method} {c : Code} {P : PT} {N : Nat}  {r9 : Int32} {M9 : Mm} (hX : Cy p s m args c meth cX8_value 7 RX8 "value" (some .int) P)  (M : Mm) (a0 : Nat) (a1 : Int32) (a2 : Int32) (a3 : Int32) (a4 : Int32) (h : fX8_value N M a0 a1 a2 a3 a4 = some (r9, M9)) : Wq p l e s m args below meth c 2 0 (some (.int r9)) M9 7 P 0 0 [(0, .ref (pB P + a0)), (1, .int a1), (2, .int a2), (3, .int a3), (4, .int a4)] [] M := by
  unfold fX8_value at h
  obtain ⟨_, _, h⟩ := ob h
  have hX0 := hX
  obtain ⟨X, hr, hlk, hnm⟩ := hX0
  have hx := X.1.1
  have hb := X.1.2.1
  intro H locs ls hM hl
  refine lv_aload_n (pc := 0) hx hb dX8_value_0 rfl (lv_at hl 0 rfl) ?_
  obtain ⟨q1, e2, h⟩ := ob h
  refine bz_getQ (pc := 1) X hM fl_RX8_26 e2 dX8_value_1 ?_
  obtain ⟨M4, e3, h⟩ := ob h
  obtain ⟨fs5, hb6⟩ := (rX3_clear e3)
  refine bz_callV0 (pc := 4) (As := []) (rest := []) X hM hl.1 k_RX8_29 (ctX3_clear l e3) rfl hb6 rfl rfl ⟨(Nat.le_of_ble_eq_true rfl), (Nat.le_of_ble_eq_true rfl)⟩ (Nat.le_of_ble_eq_true rfl) ⟨(Nat.le_of_ble_eq_true rfl), (Nat.le_of_ble_eq_true rfl)⟩ dX8_value_4 (fun H locs hM => ?_)
  refine lv_iconst (pc := 7) (v := (0 : Int32)) hx hb dX8_value_7 (by decide) ?_
  refine lv_istore (pc := 8) (lv' := [(5, .int (0 : Int32)), (0, .ref (pB P + a0)), (1, .int a1), (2, .int a2), (3, .int a3), (4, .int a4)]) hx hb dX8_value_8 hl (by decide) rfl (fun ls hl => ?_)
  exact wLX8_value_10 hX _ _ _ _ _ _ _ _ h H locs ls hM (lv_sub hl [1, 2, 3, 4, 5, 0] rfl)
theorem rX8_value {N : Nat} {M : Mm} {a0 : Nat} {a1 : Int32} {a2 : Int32} {a3 : Int32} {a4 : Int32} {r9 : Int32 × Mm} (h : fX8_value N M a0 a1 a2 a3 a4 = some r9) : ∃ fs, M[a0]? = some (.inr (8, fs)) := by
  unfold fX8_value at h
  obtain ⟨_, e1, _⟩ := ob h
  exact gC_spec e1
theorem ctX8_value (l : Launch) {P : PT} {N : Nat} {M : Mm} {a0 : Nat} {a1 : Int32} {a2 : Int32} {a3 : Int32} {a4 : Int32} {r9 : Int32} {M9 : Mm} (h : fX8_value N M a0 a1 a2 a3 a4 = some (r9, M9)) : Ct l yX8_value cX8_value 7 (some .int) 2 0 P [.ref (pB P + a0), .int a1, .int a2, .int a3, .int a4] M (some (.int r9)) M9 :=
  Ct.mk (by decide +kernel) (Nat.le_of_ble_eq_true rfl) (fun p e s m args below meth c hX => wX8_value hX M a0 a1 a2 a3 a4 h)
