set_option maxHeartbeats 4000000 in
set_option maxRecDepth 100000 in
theorem wX11_isPeriod {p : Program} {l : Launch} {e : Env} {s : State} {m : MethodId} {args : Array Value} {below : List Frame} {meth : Method} {c : Code} {P : PT}  {r9 : Int32} (hX : Cy p s m args c meth cX11_isPeriod 1 RX11 "isPeriod" (some .boolean) P)  (M : Mm) (a0 : Int32) (h : fX11_isPeriod M a0 = some r9) : Wq p l e s m args below meth c 1 0 (some (.int r9)) M 1 P 0 0 [(0, .int a0)] [] M := by
  unfold fX11_isPeriod at h
  have hX0 := hX
  obtain ⟨X, hr, hlk, hnm⟩ := hX0
  have hx := X.1.1
  have hb := X.1.2.1
  intro H locs ls hM hl
  refine lv_iload_n (pc := 0) hx hb dX11_isPeriod_0 rfl (lv_at hl 0 rfl) ?_
  refine lv_i2l (pc := 1) (v := ((a0).toInt64)) hx hb dX11_isPeriod_1 rfl ?_
  refine lv_ldc2 (pc := 2) (v := (12 : Int64)) hx hb X.1.2.2.2.1 (X.1.2.2.2.2 _ g_1580) dX11_isPeriod_2 ?_
  refine lv_ldc2 (pc := 5) (v := (999 : Int64)) hx hb X.1.2.2.2.1 (X.1.2.2.2.2 _ g_1276) dX11_isPeriod_5 ?_
  obtain ⟨v2, e1, h⟩ := ob h
  refine bz_callS1 (pc := 8) (As := [.long ((a0).toInt64), .long (12 : Int64), .long (999 : Int64)]) (rest := []) X hM hl.1 k_RX11_57 (ctX11_in l e1) rfl rfl ⟨(Nat.le_of_ble_eq_true rfl), (Nat.le_of_ble_eq_true rfl)⟩ (Nat.le_of_ble_eq_true rfl) ⟨(Nat.le_of_ble_eq_true rfl), (Nat.le_of_ble_eq_true rfl)⟩ dX11_isPeriod_8 (fun H locs hM => ?_)
  obtain ⟨v3, e4, h⟩ := ob h
  obtain rfl := so1 h
  exact bz_zretz (pc := 11) X hM hr hlk e4 dX11_isPeriod_11 (Nat.le_of_ble_eq_true rfl) (Nat.le_of_ble_eq_true rfl)
theorem ctX11_isPeriod (l : Launch) {P : PT} {M : Mm} {a0 : Int32} {r9 : Int32} (h : fX11_isPeriod M a0 = some r9) : Ct l yX11_isPeriod cX11_isPeriod 1 (some .boolean) 1 0 P [.int a0] M (some (.int r9)) M :=
  Ct.mk (by decide +kernel) (Nat.le_of_ble_eq_true rfl) (fun p e s m args below meth c hX => wX11_isPeriod hX M a0 h)
set_option maxHeartbeats 4000000 in
set_option maxRecDepth 100000 in
theorem wBX11_spreadOf_86 {p : Program} {l : Launch} {e : Env} {s : State} {m : MethodId} {args : Array Value} {below : List Frame} {meth : Method} {c : Code} {P : PT} {N : Nat} {K86 : Mm → Nat → Int32 → Int32 → Option (Int32 × Mm)}  {r9 : Int32} {M9 : Mm} (hX : Cy p s m args c meth cX11_spreadOf 6 RX11 "spreadOf" (some .int) P)  (hK86 : ∀ (M : Mm) (x0 : Nat) (x4 : Int32) (x5 : Int32), K86 M x0 x4 x5 = some (r9, M9) → Wq p l e s m args below meth c 2 0 (some (.int r9)) M9 6 P 0 86 [(0, .ref (pB P + x0)), (4, .int x4), (5, .int x5)] [] M) (M : Mm) (x0 : Nat) (x4 : Int32) (x5 : Int32)  (h : BX11_spreadOf_86 N K86 M x0 x4 x5 = some (r9, M9)) : Wq p l e s m args below meth c 2 0 (some (.int r9)) M9 6 P 0 86 [(0, .ref (pB P + x0)), (4, .int x4), (5, .int x5)] [] M := by
  unfold BX11_spreadOf_86 at h
  have hX0 := hX
  obtain ⟨X, hr, hlk, hnm⟩ := hX0
  have hx := X.1.1
  have hb := X.1.2.1
  intro H locs ls hM hl
  refine lv_iload (pc := 86) hx hb dX11_spreadOf_86 (lv_at hl 2 rfl) ?_
  refine lv_bipush (pc := 88) (v := (12 : Int32)) hx hb dX11_spreadOf_88 (by decide) ?_
  refine lv_icmp_ge (pc := 90) (tgt := 119) hx hb dX11_spreadOf_90 (by decide) (fun hc => ?_) (fun hc => ?_)
  · have h := if_t hc h
    refine lv_iload (pc := 119) hx hb dX11_spreadOf_119 (lv_at hl 1 rfl) ?_
    obtain ⟨rfl, rfl⟩ := so2 h
    exact bz_iret (pc := 121) X hM hr hlk dX11_spreadOf_121 (Nat.le_of_ble_eq_true rfl) (Nat.le_of_ble_eq_true rfl)
  · have h := if_f hc h
    refine lv_iload (pc := 93) hx hb dX11_spreadOf_93 (lv_at hl 1 rfl) ?_
    refine lv_aload_n (pc := 95) hx hb dX11_spreadOf_95 rfl (lv_at hl 0 rfl) ?_
    obtain ⟨q1, e2, h⟩ := ob h
    refine bz_getQ (pc := 96) X hM fl_RX11_50 e2 dX11_spreadOf_96 ?_
    refine lv_iload (pc := 99) hx hb dX11_spreadOf_99 (lv_at hl 2 rfl) ?_
    obtain ⟨v3, e4, h⟩ := ob h
    refine bz_iald (pc := 101) X hM e4 dX11_spreadOf_101 ?_
    refine lv_aload_n (pc := 102) hx hb dX11_spreadOf_102 rfl (lv_at hl 0 rfl) ?_
    obtain ⟨q5, e6, h⟩ := ob h
    refine bz_getQ (pc := 103) X hM fl_RX11_50 e6 dX11_spreadOf_103 ?_
    refine lv_iload (pc := 106) hx hb dX11_spreadOf_106 (lv_at hl 2 rfl) ?_
    obtain ⟨v7, e8, h⟩ := ob h
    refine bz_iald (pc := 108) X hM e8 dX11_spreadOf_108 ?_
    refine lv_imul (pc := 109) hx hb dX11_spreadOf_109 ?_
    refine lv_iadd (pc := 110) hx hb dX11_spreadOf_110 ?_
    refine lv_istore (pc := 111) (lv' := [(4, .int (x4 + (v3 * v7))), (0, .ref (pB P + x0)), (5, .int x5)]) hx hb dX11_spreadOf_111 hl (by decide) rfl (fun ls hl => ?_)
    refine lv_iinc (pc := 113) (v := (x5 + (1 : Int32))) (lv' := [(5, .int (x5 + (1 : Int32))), (4, .int (x4 + (v3 * v7))), (0, .ref (pB P + x0))]) hx hb dX11_spreadOf_113 hl (k := 2) rfl rfl (by decide) rfl (fun ls hl => ?_)
    refine lv_goto (pc := 116) (tgt := 86) hx hb dX11_spreadOf_116 (by decide) ?_
    exact hK86 _ _ _ _ h H locs ls hM (lv_sub hl [2, 1, 0] rfl)
set_option maxHeartbeats 4000000 in
set_option maxRecDepth 100000 in
theorem wLX11_spreadOf_86 {p : Program} {l : Launch} {e : Env} {s : State} {m : MethodId} {args : Array Value} {below : List Frame} {meth : Method} {c : Code} {P : PT} {N : Nat}  {r9 : Int32} {M9 : Mm} (hX : Cy p s m args c meth cX11_spreadOf 6 RX11 "spreadOf" (some .int) P)   : ∀ (n : Nat) (M : Mm) (x0 : Nat) (x4 : Int32) (x5 : Int32) , LX11_spreadOf_86 N n M x0 x4 x5 = some (r9, M9) → Wq p l e s m args below meth c 2 0 (some (.int r9)) M9 6 P 0 86 [(0, .ref (pB P + x0)), (4, .int x4), (5, .int x5)] [] M := by
  intro n
  induction n with
  | zero => intro M x0 x4 x5 h; cases h
  | succ n ih => intro M x0 x4 x5 h; exact wBX11_spreadOf_86 hX ih M x0 x4 x5 h
set_option maxHeartbeats 4000000 in
set_option maxRecDepth 100000 in
theorem wBX11_spreadOf_27 {p : Program} {l : Launch} {e : Env} {s : State} {m : MethodId} {args : Array Value} {below : List Frame} {meth : Method} {c : Code} {P : PT} {N : Nat} {K27 : Mm → Nat → Int32 → Int32 → Int32 → Int32 → Option (Int32 × Mm)}  {r9 : Int32} {M9 : Mm} (hX : Cy p s m args c meth cX11_spreadOf 6 RX11 "spreadOf" (some .int) P)  (hK27 : ∀ (M : Mm) (x0 : Nat) (x1 : Int32) (x2 : Int32) (x3 : Int32) (x4 : Int32), K27 M x0 x1 x2 x3 x4 = some (r9, M9) → Wq p l e s m args below meth c 2 0 (some (.int r9)) M9 6 P 0 27 [(0, .ref (pB P + x0)), (1, .int x1), (2, .int x2), (3, .int x3), (4, .int x4)] [] M) (M : Mm) (x0 : Nat) (x1 : Int32) (x2 : Int32) (x3 : Int32) (x4 : Int32)  (h : BX11_spreadOf_27 N K27 M x0 x1 x2 x3 x4 = some (r9, M9)) : Wq p l e s m args below meth c 2 0 (some (.int r9)) M9 6 P 0 27 [(0, .ref (pB P + x0)), (1, .int x1), (2, .int x2), (3, .int x3), (4, .int x4)] [] M := by
  unfold BX11_spreadOf_27 at h
  have hX0 := hX
  obtain ⟨X, hr, hlk, hnm⟩ := hX0
  have hx := X.1.1
  have hb := X.1.2.1
  intro H locs ls hM hl
  refine lv_iload (pc := 27) hx hb dX11_spreadOf_27 (lv_at hl 4 rfl) ?_
  refine lv_aload_n (pc := 29) hx hb dX11_spreadOf_29 rfl (lv_at hl 0 rfl) ?_
  obtain ⟨q1, e2, h⟩ := ob h
  refine bz_getQ (pc := 30) X hM fl_RX11_9 e2 dX11_spreadOf_30 ?_
  refine lv_iconst (pc := 33) (v := (1 : Int32)) hx hb dX11_spreadOf_33 (by decide) ?_
  obtain ⟨v3, e4, h⟩ := ob h
  refine bz_iald (pc := 34) X hM e4 dX11_spreadOf_34 ?_
  refine lv_icmp_ge (pc := 35) (tgt := 80) hx hb dX11_spreadOf_35 (by decide) (fun hc => ?_) (fun hc => ?_)
  · have h := if_t hc h
    refine lv_iconst (pc := 80) (v := (0 : Int32)) hx hb dX11_spreadOf_80 (by decide) ?_
    refine lv_istore (pc := 81) (lv' := [(4, .int (0 : Int32)), (0, .ref (pB P + x0)), (1, .int x1), (2, .int x2), (3, .int x3)]) hx hb dX11_spreadOf_81 hl (by decide) rfl (fun ls hl => ?_)
    refine lv_iconst (pc := 83) (v := (0 : Int32)) hx hb dX11_spreadOf_83 (by decide) ?_
    refine lv_istore (pc := 84) (lv' := [(5, .int (0 : Int32)), (4, .int (0 : Int32)), (0, .ref (pB P + x0)), (1, .int x1), (2, .int x2), (3, .int x3)]) hx hb dX11_spreadOf_84 hl (by decide) rfl (fun ls hl => ?_)
    exact wLX11_spreadOf_86 hX _ _ _ _ _ h H locs ls hM (lv_sub hl [2, 1, 0] rfl)
  · have h := if_f hc h
    refine lv_aload_n (pc := 38) hx hb dX11_spreadOf_38 rfl (lv_at hl 0 rfl) ?_
    refine lv_iload (pc := 39) hx hb dX11_spreadOf_39 (lv_at hl 4 rfl) ?_
    refine lv_iload_n (pc := 41) hx hb dX11_spreadOf_41 rfl (lv_at hl 1 rfl) ?_
    refine lv_iload_n (pc := 42) hx hb dX11_spreadOf_42 rfl (lv_at hl 2 rfl) ?_
    obtain ⟨v6, e5, h⟩ := ob h
    obtain ⟨fs7, hb8⟩ := (rX11_isCounted e5)
    refine bz_callV1 (pc := 43) (As := [.int x4, .int x1, .int x2]) (rest := []) X hM hl.1 k_RX11_123 (ctX11_isCounted l e5) rfl hb8 rfl rfl ⟨(Nat.le_of_ble_eq_true rfl), (Nat.le_of_ble_eq_true rfl)⟩ (Nat.le_of_ble_eq_true rfl) ⟨(Nat.le_of_ble_eq_true rfl), (Nat.le_of_ble_eq_true rfl)⟩ dX11_spreadOf_43 (fun H locs hM => ?_)
    refine lv_if_eq (pc := 46) (tgt := 74) hx hb dX11_spreadOf_46 (by decide) (fun hc => ?_) (fun hc => ?_)
    · have h := if_t hc h
      refine lv_iinc (pc := 74) (v := (x4 + (1 : Int32))) (lv' := [(4, .int (x4 + (1 : Int32))), (0, .ref (pB P + x0)), (1, .int x1), (2, .int x2), (3, .int x3)]) hx hb dX11_spreadOf_74 hl (k := 4) rfl rfl (by decide) rfl (fun ls hl => ?_)
      refine lv_goto (pc := 77) (tgt := 27) hx hb dX11_spreadOf_77 (by decide) ?_
      exact hK27 _ _ _ _ _ _ h H locs ls hM (lv_sub hl [1, 2, 3, 4, 0] rfl)
    · have h := if_f hc h
      refine lv_aload_n (pc := 49) hx hb dX11_spreadOf_49 rfl (lv_at hl 0 rfl) ?_
      obtain ⟨q9, e10, h⟩ := ob h
      refine bz_getQ (pc := 50) X hM fl_RX11_50 e10 dX11_spreadOf_50 ?_
      refine lv_bipush (pc := 53) (v := (12 : Int32)) hx hb dX11_spreadOf_53 (by decide) ?_
      refine lv_aload_n (pc := 55) hx hb dX11_spreadOf_55 rfl (lv_at hl 0 rfl) ?_
      obtain ⟨q11, e12, h⟩ := ob h
      refine bz_getQ (pc := 56) X hM fl_RX11_19 e12 dX11_spreadOf_56 ?_
      refine lv_iload (pc := 59) hx hb dX11_spreadOf_59 (lv_at hl 4 rfl) ?_
      obtain ⟨v13, e14, h⟩ := ob h
      refine bz_iald (pc := 61) X hM e14 dX11_spreadOf_61 ?_
      refine lv_iload_n (pc := 62) hx hb dX11_spreadOf_62 rfl (lv_at hl 3 rfl) ?_
      obtain ⟨v16, e15, h⟩ := ob h
      refine bz_callS1 (pc := 63) (As := [.int v13, .int x3]) (rest := [.int (12 : Int32), .ref (pB P + q9)]) X hM hl.1 k_RX11_111 (ctX11_rest l e15) rfl rfl ⟨(Nat.le_of_ble_eq_true rfl), (Nat.le_of_ble_eq_true rfl)⟩ (Nat.le_of_ble_eq_true rfl) ⟨(Nat.le_of_ble_eq_true rfl), (Nat.le_of_ble_eq_true rfl)⟩ dX11_spreadOf_63 (fun H locs hM => ?_)
      refine lv_imul (pc := 66) hx hb dX11_spreadOf_66 ?_
      refine lv_iload_n (pc := 67) hx hb dX11_spreadOf_67 rfl (lv_at hl 3 rfl) ?_
      obtain ⟨v17, e18, h⟩ := ob h
      refine bz_idiv (pc := 68) hx hb e18 dX11_spreadOf_68 ?_
      refine lv_dup2_11 (pc := 69) hx hb dX11_spreadOf_69 rfl rfl ?_
      obtain ⟨v19, e20, h⟩ := ob h
      refine bz_iald (pc := 70) X hM e20 dX11_spreadOf_70 ?_
      refine lv_iconst (pc := 71) (v := (1 : Int32)) hx hb dX11_spreadOf_71 (by decide) ?_
      refine lv_iadd (pc := 72) hx hb dX11_spreadOf_72 ?_
      obtain ⟨M21, e22, h⟩ := ob h
      refine bz_iast (pc := 73) X hM e22 dX11_spreadOf_73 (fun H locs hM => ?_)
      refine lv_iinc (pc := 74) (v := (x4 + (1 : Int32))) (lv' := [(4, .int (x4 + (1 : Int32))), (0, .ref (pB P + x0)), (1, .int x1), (2, .int x2), (3, .int x3)]) hx hb dX11_spreadOf_74 hl (k := 4) rfl rfl (by decide) rfl (fun ls hl => ?_)
      refine lv_goto (pc := 77) (tgt := 27) hx hb dX11_spreadOf_77 (by decide) ?_
      exact hK27 _ _ _ _ _ _ h H locs ls hM (lv_sub hl [1, 2, 3, 4, 0] rfl)
set_option maxHeartbeats 4000000 in
set_option maxRecDepth 100000 in
theorem wLX11_spreadOf_27 {p : Program} {l : Launch} {e : Env} {s : State} {m : MethodId} {args : Array Value} {below : List Frame} {meth : Method} {c : Code} {P : PT} {N : Nat}  {r9 : Int32} {M9 : Mm} (hX : Cy p s m args c meth cX11_spreadOf 6 RX11 "spreadOf" (some .int) P)   : ∀ (n : Nat) (M : Mm) (x0 : Nat) (x1 : Int32) (x2 : Int32) (x3 : Int32) (x4 : Int32) , LX11_spreadOf_27 N n M x0 x1 x2 x3 x4 = some (r9, M9) → Wq p l e s m args below meth c 2 0 (some (.int r9)) M9 6 P 0 27 [(0, .ref (pB P + x0)), (1, .int x1), (2, .int x2), (3, .int x3), (4, .int x4)] [] M := by
  intro n
  induction n with
  | zero => intro M x0 x1 x2 x3 x4 h; cases h
  | succ n ih => intro M x0 x1 x2 x3 x4 h; exact wBX11_spreadOf_27 hX ih M x0 x1 x2 x3 x4 h
set_option maxHeartbeats 4000000 in
set_option maxRecDepth 100000 in
theorem wBX11_spreadOf_3 {p : Program} {l : Launch} {e : Env} {s : State} {m : MethodId} {args : Array Value} {below : List Frame} {meth : Method} {c : Code} {P : PT} {N : Nat} {K3 : Mm → Nat → Int32 → Int32 → Int32 → Int32 → Option (Int32 × Mm)}  {r9 : Int32} {M9 : Mm} (hX : Cy p s m args c meth cX11_spreadOf 6 RX11 "spreadOf" (some .int) P)  (hK3 : ∀ (M : Mm) (x0 : Nat) (x1 : Int32) (x2 : Int32) (x3 : Int32) (x4 : Int32), K3 M x0 x1 x2 x3 x4 = some (r9, M9) → Wq p l e s m args below meth c 2 0 (some (.int r9)) M9 6 P 0 3 [(0, .ref (pB P + x0)), (1, .int x1), (2, .int x2), (3, .int x3), (4, .int x4)] [] M) (M : Mm) (x0 : Nat) (x1 : Int32) (x2 : Int32) (x3 : Int32) (x4 : Int32)  (h : BX11_spreadOf_3 N K3 M x0 x1 x2 x3 x4 = some (r9, M9)) : Wq p l e s m args below meth c 2 0 (some (.int r9)) M9 6 P 0 3 [(0, .ref (pB P + x0)), (1, .int x1), (2, .int x2), (3, .int x3), (4, .int x4)] [] M := by
  unfold BX11_spreadOf_3 at h
  have hX0 := hX
  obtain ⟨X, hr, hlk, hnm⟩ := hX0
  have hx := X.1.1
  have hb := X.1.2.1
  intro H locs ls hM hl
  refine lv_iload (pc := 3) hx hb dX11_spreadOf_3 (lv_at hl 4 rfl) ?_
  refine lv_bipush (pc := 5) (v := (12 : Int32)) hx hb dX11_spreadOf_5 (by decide) ?_
  refine lv_icmp_ge (pc := 7) (tgt := 24) hx hb dX11_spreadOf_7 (by decide) (fun hc => ?_) (fun hc => ?_)
  · have h := if_t hc h
    refine lv_iconst (pc := 24) (v := (0 : Int32)) hx hb dX11_spreadOf_24 (by decide) ?_
    refine lv_istore (pc := 25) (lv' := [(4, .int (0 : Int32)), (0, .ref (pB P + x0)), (1, .int x1), (2, .int x2), (3, .int x3)]) hx hb dX11_spreadOf_25 hl (by decide) rfl (fun ls hl => ?_)
    exact wLX11_spreadOf_27 hX _ _ _ _ _ _ _ h H locs ls hM (lv_sub hl [1, 2, 3, 4, 0] rfl)
  · have h := if_f hc h
    refine lv_aload_n (pc := 10) hx hb dX11_spreadOf_10 rfl (lv_at hl 0 rfl) ?_
    obtain ⟨q1, e2, h⟩ := ob h
    refine bz_getQ (pc := 11) X hM fl_RX11_50 e2 dX11_spreadOf_11 ?_
    refine lv_iload (pc := 14) hx hb dX11_spreadOf_14 (lv_at hl 4 rfl) ?_
    refine lv_iconst (pc := 16) (v := (0 : Int32)) hx hb dX11_spreadOf_16 (by decide) ?_
    obtain ⟨M3, e4, h⟩ := ob h
    refine bz_iast (pc := 17) X hM e4 dX11_spreadOf_17 (fun H locs hM => ?_)
    refine lv_iinc (pc := 18) (v := (x4 + (1 : Int32))) (lv' := [(4, .int (x4 + (1 : Int32))), (0, .ref (pB P + x0)), (1, .int x1), (2, .int x2), (3, .int x3)]) hx hb dX11_spreadOf_18 hl (k := 4) rfl rfl (by decide) rfl (fun ls hl => ?_)
    refine lv_goto (pc := 21) (tgt := 3) hx hb dX11_spreadOf_21 (by decide) ?_
    exact hK3 _ _ _ _ _ _ h H locs ls hM (lv_sub hl [1, 2, 3, 4, 0] rfl)
set_option maxHeartbeats 4000000 in
set_option maxRecDepth 100000 in
theorem wLX11_spreadOf_3 {p : Program} {l : Launch} {e : Env} {s : State} {m : MethodId} {args : Array Value} {below : List Frame} {meth : Method} {c : Code} {P : PT} {N : Nat}  {r9 : Int32} {M9 : Mm} (hX : Cy p s m args c meth cX11_spreadOf 6 RX11 "spreadOf" (some .int) P)   : ∀ (n : Nat) (M : Mm) (x0 : Nat) (x1 : Int32) (x2 : Int32) (x3 : Int32) (x4 : Int32) , LX11_spreadOf_3 N n M x0 x1 x2 x3 x4 = some (r9, M9) → Wq p l e s m args below meth c 2 0 (some (.int r9)) M9 6 P 0 3 [(0, .ref (pB P + x0)), (1, .int x1), (2, .int x2), (3, .int x3), (4, .int x4)] [] M := by
  intro n
  induction n with
  | zero => intro M x0 x1 x2 x3 x4 h; cases h
  | succ n ih => intro M x0 x1 x2 x3 x4 h; exact wBX11_spreadOf_3 hX ih M x0 x1 x2 x3 x4 h
set_option maxHeartbeats 4000000 in
set_option maxRecDepth 100000 in
theorem wX11_spreadOf {p : Program} {l : Launch} {e : Env} {s : State} {m : MethodId} {args : Array Value} {below : List Frame} {meth : Method} {c : Code} {P : PT} {N : Nat}  {r9 : Int32} {M9 : Mm} (hX : Cy p s m args c meth cX11_spreadOf 6 RX11 "spreadOf" (some .int) P)  (M : Mm) (a0 : Nat) (a1 : Int32) (a2 : Int32) (a3 : Int32) (h : fX11_spreadOf N M a0 a1 a2 a3 = some (r9, M9)) : Wq p l e s m args below meth c 2 0 (some (.int r9)) M9 6 P 0 0 [(0, .ref (pB P + a0)), (1, .int a1), (2, .int a2), (3, .int a3)] [] M := by
  unfold fX11_spreadOf at h
  obtain ⟨_, _, h⟩ := ob h
  have hX0 := hX
  obtain ⟨X, hr, hlk, hnm⟩ := hX0
  have hx := X.1.1
  have hb := X.1.2.1
  intro H locs ls hM hl
  refine lv_iconst (pc := 0) (v := (0 : Int32)) hx hb dX11_spreadOf_0 (by decide) ?_
  refine lv_istore (pc := 1) (lv' := [(4, .int (0 : Int32)), (0, .ref (pB P + a0)), (1, .int a1), (2, .int a2), (3, .int a3)]) hx hb dX11_spreadOf_1 hl (by decide) rfl (fun ls hl => ?_)
  exact wLX11_spreadOf_3 hX _ _ _ _ _ _ _ h H locs ls hM (lv_sub hl [1, 2, 3, 4, 0] rfl)
theorem rX11_spreadOf {N : Nat} {M : Mm} {a0 : Nat} {a1 : Int32} {a2 : Int32} {a3 : Int32} {r9 : Int32 × Mm} (h : fX11_spreadOf N M a0 a1 a2 a3 = some r9) : ∃ fs, M[a0]? = some (.inr (11, fs)) := by
  unfold fX11_spreadOf at h
  obtain ⟨_, e1, _⟩ := ob h
  exact gC_spec e1
theorem ctX11_spreadOf (l : Launch) {P : PT} {N : Nat} {M : Mm} {a0 : Nat} {a1 : Int32} {a2 : Int32} {a3 : Int32} {r9 : Int32} {M9 : Mm} (h : fX11_spreadOf N M a0 a1 a2 a3 = some (r9, M9)) : Ct l yX11_spreadOf cX11_spreadOf 6 (some .int) 2 0 P [.ref (pB P + a0), .int a1, .int a2, .int a3] M (some (.int r9)) M9 :=
  Ct.mk (by decide +kernel) (Nat.le_of_ble_eq_true rfl) (fun p e s m args below meth c hX => wX11_spreadOf hX M a0 a1 a2 a3 h)
set_option maxHeartbeats 4000000 in
set_option maxRecDepth 100000 in
theorem wjX11_spread_22 {p : Program} {l : Launch} {e : Env} {s : State} {m : MethodId} {args : Array Value} {below : List Frame} {meth : Method} {c : Code} {P : PT} {N : Nat}  {r9 : Int32} {M9 : Mm} (hX : Cy p s m args c meth cX11_spread 4 RX11 "spread" (some .int) P)   (M : Mm) (x0 : Nat)  (h : jX11_spread_22 N M x0 = some (r9, M9)) : Wq p l e s m args below meth c 4 0 (some (.int r9)) M9 4 P 0 22 [(0, .ref (pB P + x0))] [] M := by
  unfold jX11_spread_22 at h
  have hX0 := hX
  obtain ⟨X, hr, hlk, hnm⟩ := hX0
  have hx := X.1.1
  have hb := X.1.2.1
  intro H locs ls hM hl
  refine lv_aload_n (pc := 22) hx hb dX11_spread_22 rfl (lv_at hl 0 rfl) ?_
  refine lv_iconst (pc := 23) (v := (1 : Int32)) hx hb dX11_spread_23 (by decide) ?_
  obtain ⟨v2, M3, e1, h⟩ := ob2 h
  obtain ⟨fs4, hb5⟩ := (rX11_error e1)
  refine bz_callV1 (pc := 24) (As := [.int (1 : Int32)]) (rest := []) X hM hl.1 k_RX11_73 (ctX11_error l e1) rfl hb5 rfl rfl ⟨(Nat.le_of_ble_eq_true rfl), (Nat.le_of_ble_eq_true rfl)⟩ (Nat.le_of_ble_eq_true rfl) ⟨(Nat.le_of_ble_eq_true rfl), (Nat.le_of_ble_eq_true rfl)⟩ dX11_spread_24 (fun H locs hM => ?_)
  obtain ⟨rfl, rfl⟩ := so2 h
  exact bz_iret (pc := 27) X hM hr hlk dX11_spread_27 (Nat.le_of_ble_eq_true rfl) (Nat.le_of_ble_eq_true rfl)
set_option maxHeartbeats 4000000 in
set_option maxRecDepth 100000 in
theorem wX11_spread {p : Program} {l : Launch} {e : Env} {s : State} {m : MethodId} {args : Array Value} {below : List Frame} {meth : Method} {c : Code} {P : PT} {N : Nat}  {r9 : Int32} {M9 : Mm} (hX : Cy p s m args c meth cX11_spread 4 RX11 "spread" (some .int) P)  (M : Mm) (a0 : Nat) (a1 : Int32) (a2 : Int32) (a3 : Int32) (h : fX11_spread N M a0 a1 a2 a3 = some (r9, M9)) : Wq p l e s m args below meth c 4 0 (some (.int r9)) M9 4 P 0 0 [(0, .ref (pB P + a0)), (1, .int a1), (2, .int a2), (3, .int a3)] [] M := by
  unfold fX11_spread at h
  obtain ⟨_, _, h⟩ := ob h
  have hX0 := hX
  obtain ⟨X, hr, hlk, hnm⟩ := hX0
  have hx := X.1.1
  have hb := X.1.2.1
  intro H locs ls hM hl
  refine lv_aload_n (pc := 0) hx hb dX11_spread_0 rfl (lv_at hl 0 rfl) ?_
  refine lv_iload_n (pc := 1) hx hb dX11_spread_1 rfl (lv_at hl 1 rfl) ?_
  obtain ⟨v2, e1, h⟩ := ob h
  obtain ⟨fs3, hb4⟩ := (rX11_isBar e1)
  refine bz_callV1 (pc := 2) (As := [.int a1]) (rest := []) X hM hl.1 k_RX11_65 (ctX11_isBar l e1) rfl hb4 rfl rfl ⟨(Nat.le_of_ble_eq_true rfl), (Nat.le_of_ble_eq_true rfl)⟩ (Nat.le_of_ble_eq_true rfl) ⟨(Nat.le_of_ble_eq_true rfl), (Nat.le_of_ble_eq_true rfl)⟩ dX11_spread_2 (fun H locs hM => ?_)
  refine lv_if_eq (pc := 5) (tgt := 22) hx hb dX11_spread_5 (by decide) (fun hc => ?_) (fun hc => ?_)
  · have h := if_t hc h
    exact wjX11_spread_22 hX _ _ h H locs ls hM (lv_sub hl [0] rfl)
  · have h := if_f hc h
    refine lv_iload_n (pc := 8) hx hb dX11_spread_8 rfl (lv_at hl 2 rfl) ?_
    obtain ⟨v6, e5, h⟩ := ob h
    refine bz_callS1 (pc := 9) (As := [.int a2]) (rest := []) X hM hl.1 k_RX11_117 (ctX11_isLine l e5) rfl rfl ⟨(Nat.le_of_ble_eq_true rfl), (Nat.le_of_ble_eq_true rfl)⟩ (Nat.le_of_ble_eq_true rfl) ⟨(Nat.le_of_ble_eq_true rfl), (Nat.le_of_ble_eq_true rfl)⟩ dX11_spread_9 (fun H locs hM => ?_)
    refine lv_if_eq (pc := 12) (tgt := 22) hx hb dX11_spread_12 (by decide) (fun hc => ?_) (fun hc => ?_)
    · have h := if_t hc h
      exact wjX11_spread_22 hX _ _ h H locs ls hM (lv_sub hl [0] rfl)
    · have h := if_f hc h
      refine lv_iload_n (pc := 15) hx hb dX11_spread_15 rfl (lv_at hl 3 rfl) ?_
      obtain ⟨v8, e7, h⟩ := ob h
      refine bz_callS1 (pc := 16) (As := [.int a3]) (rest := []) X hM hl.1 k_RX11_282 (ctX11_isPeriod l e7) rfl rfl ⟨(Nat.le_of_ble_eq_true rfl), (Nat.le_of_ble_eq_true rfl)⟩ (Nat.le_of_ble_eq_true rfl) ⟨(Nat.le_of_ble_eq_true rfl), (Nat.le_of_ble_eq_true rfl)⟩ dX11_spread_16 (fun H locs hM => ?_)
      refine lv_if_ne (pc := 19) (tgt := 28) hx hb dX11_spread_19 (by decide) (fun hc => ?_) (fun hc => ?_)
      · have h := if_f hc h
        refine lv_aload_n (pc := 28) hx hb dX11_spread_28 rfl (lv_at hl 0 rfl) ?_
        obtain ⟨M10, e9, h⟩ := ob h
        obtain ⟨fs11, hb12⟩ := (rX11_readAll e9)
        refine bz_callV0 (pc := 29) (As := []) (rest := []) X hM hl.1 k_RX11_120 (ctX11_readAll l e9) rfl hb12 rfl rfl ⟨(Nat.le_of_ble_eq_true rfl), (Nat.le_of_ble_eq_true rfl)⟩ (Nat.le_of_ble_eq_true rfl) ⟨(Nat.le_of_ble_eq_true rfl), (Nat.le_of_ble_eq_true rfl)⟩ dX11_spread_29 (fun H locs hM => ?_)
        refine lv_aload_n (pc := 32) hx hb dX11_spread_32 rfl (lv_at hl 0 rfl) ?_
        refine lv_iload_n (pc := 33) hx hb dX11_spread_33 rfl (lv_at hl 1 rfl) ?_
        refine lv_iload_n (pc := 34) hx hb dX11_spread_34 rfl (lv_at hl 2 rfl) ?_
        refine lv_iload_n (pc := 35) hx hb dX11_spread_35 rfl (lv_at hl 3 rfl) ?_
        obtain ⟨v14, M15, e13, h⟩ := ob2 h
        obtain ⟨fs16, hb17⟩ := (rX11_spreadOf e13)
        refine bz_callV1 (pc := 36) (As := [.int a1, .int a2, .int a3]) (rest := []) X hM hl.1 k_RX11_285 (ctX11_spreadOf l e13) rfl hb17 rfl rfl ⟨(Nat.le_of_ble_eq_true rfl), (Nat.le_of_ble_eq_true rfl)⟩ (Nat.le_of_ble_eq_true rfl) ⟨(Nat.le_of_ble_eq_true rfl), (Nat.le_of_ble_eq_true rfl)⟩ dX11_spread_36 (fun H locs hM => ?_)
        obtain ⟨rfl, rfl⟩ := so2 h
        exact bz_iret (pc := 39) X hM hr hlk dX11_spread_39 (Nat.le_of_ble_eq_true rfl) (Nat.le_of_ble_eq_true rfl)
      · have h := if_t hc h
        exact wjX11_spread_22 hX _ _ h H locs ls hM (lv_sub hl [0] rfl)
theorem rX11_spread {N : Nat} {M : Mm} {a0 : Nat} {a1 : Int32} {a2 : Int32} {a3 : Int32} {r9 : Int32 × Mm} (h : fX11_spread N M a0 a1 a2 a3 = some r9) : ∃ fs, M[a0]? = some (.inr (11, fs)) := by
  unfold fX11_spread at h
  obtain ⟨_, e1, _⟩ := ob h
  exact gC_spec e1
theorem ctX11_spread (l : Launch) {P : PT} {N : Nat} {M : Mm} {a0 : Nat} {a1 : Int32} {a2 : Int32} {a3 : Int32} {r9 : Int32} {M9 : Mm} (h : fX11_spread N M a0 a1 a2 a3 = some (r9, M9)) : Ct l yX11_spread cX11_spread 4 (some .int) 4 0 P [.ref (pB P + a0), .int a1, .int a2, .int a3] M (some (.int r9)) M9 :=
  Ct.mk (by decide +kernel) (Nat.le_of_ble_eq_true rfl) (fun p e s m args below meth c hX => wX11_spread hX M a0 a1 a2 a3 h)
set_option maxHeartbeats 4000000 in
set_option maxRecDepth 100000 in
theorem wX10_arePeriods {p : Program} {l : Launch} {e : Env} {s : State} {m : MethodId} {args : Array Value} {below : List Frame} {meth : Method} {c : Code} {P : PT}  {r9 : Int32} (hX : Cy p s m args c meth cX10_arePeriods 2 RX10 "arePeriods" (some .boolean) P)  (M : Mm) (a0 : Int32) (a1 : Int32) (h : fX10_arePeriods M a0 a1 = some r9) : Wq p l e s m args below meth c 2 0 (some (.int r9)) M 2 P 0 0 [(0, .int a0), (1, .int a1)] [] M := by
  unfold fX10_arePeriods at h
  have hX0 := hX
  obtain ⟨X, hr, hlk, hnm⟩ := hX0
  have hx := X.1.1
  have hb := X.1.2.1
  intro H locs ls hM hl
  refine lv_iload_n (pc := 0) hx hb dX10_arePeriods_0 rfl (lv_at hl 0 rfl) ?_
  obtain ⟨v2, e1, h⟩ := ob h
  refine bz_callS1 (pc := 1) (As := [.int a0]) (rest := []) X hM hl.1 k_RX10_309 (ctX10_isPeriod l e1) rfl rfl ⟨(Nat.le_of_ble_eq_true rfl), (Nat.le_of_ble_eq_true rfl)⟩ (Nat.le_of_ble_eq_true rfl) ⟨(Nat.le_of_ble_eq_true rfl), (Nat.le_of_ble_eq_true rfl)⟩ dX10_arePeriods_1 (fun H locs hM => ?_)
  refine lv_if_eq (pc := 4) (tgt := 30) hx hb dX10_arePeriods_4 (by decide) (fun hc => ?_) (fun hc => ?_)
  · have h := if_t hc h
    refine lv_iconst (pc := 30) (v := (0 : Int32)) hx hb dX10_arePeriods_30 (by decide) ?_
    obtain rfl := so1 h
    exact bz_zret (pc := 31) X hM hr hlk (by decide) dX10_arePeriods_31 (Nat.le_of_ble_eq_true rfl) (Nat.le_of_ble_eq_true rfl)
  · have h := if_f hc h
    refine lv_iload_n (pc := 7) hx hb dX10_arePeriods_7 rfl (lv_at hl 1 rfl) ?_
    obtain ⟨v4, e3, h⟩ := ob h
    refine bz_callS1 (pc := 8) (As := [.int a1]) (rest := []) X hM hl.1 k_RX10_309 (ctX10_isPeriod l e3) rfl rfl ⟨(Nat.le_of_ble_eq_true rfl), (Nat.le_of_ble_eq_true rfl)⟩ (Nat.le_of_ble_eq_true rfl) ⟨(Nat.le_of_ble_eq_true rfl), (Nat.le_of_ble_eq_true rfl)⟩ dX10_arePeriods_8 (fun H locs hM => ?_)
    refine lv_if_eq (pc := 11) (tgt := 30) hx hb dX10_arePeriods_11 (by decide) (fun hc => ?_) (fun hc => ?_)
    · have h := if_t hc h
      refine lv_iconst (pc := 30) (v := (0 : Int32)) hx hb dX10_arePeriods_30 (by decide) ?_
      obtain rfl := so1 h
      exact bz_zret (pc := 31) X hM hr hlk (by decide) dX10_arePeriods_31 (Nat.le_of_ble_eq_true rfl) (Nat.le_of_ble_eq_true rfl)
    · have h := if_f hc h
      refine lv_iload_n (pc := 14) hx hb dX10_arePeriods_14 rfl (lv_at hl 1 rfl) ?_
      refine lv_iload_n (pc := 15) hx hb dX10_arePeriods_15 rfl (lv_at hl 0 rfl) ?_
      refine lv_isub (pc := 16) hx hb dX10_arePeriods_16 ?_
      refine lv_iconst (pc := 17) (v := (0 : Int32)) hx hb dX10_arePeriods_17 (by decide) ?_
      refine lv_bipush (pc := 18) (v := (39 : Int32)) hx hb dX10_arePeriods_18 (by decide) ?_
      obtain ⟨v6, e5, h⟩ := ob h
      refine bz_callS1 (pc := 20) (As := [.int (a1 - a0), .int (0 : Int32), .int (39 : Int32)]) (rest := []) X hM hl.1 k_RX10_74 (ctX10_within l e5) rfl rfl ⟨(Nat.le_of_ble_eq_true rfl), (Nat.le_of_ble_eq_true rfl)⟩ (Nat.le_of_ble_eq_true rfl) ⟨(Nat.le_of_ble_eq_true rfl), (Nat.le_of_ble_eq_true rfl)⟩ dX10_arePeriods_20 (fun H locs hM => ?_)
      refine lv_if_eq (pc := 23) (tgt := 30) hx hb dX10_arePeriods_23 (by decide) (fun hc => ?_) (fun hc => ?_)
      · have h := if_t hc h
        refine lv_iconst (pc := 30) (v := (0 : Int32)) hx hb dX10_arePeriods_30 (by decide) ?_
        obtain rfl := so1 h
        exact bz_zret (pc := 31) X hM hr hlk (by decide) dX10_arePeriods_31 (Nat.le_of_ble_eq_true rfl) (Nat.le_of_ble_eq_true rfl)
      · have h := if_f hc h
        refine lv_iconst (pc := 26) (v := (1 : Int32)) hx hb dX10_arePeriods_26 (by decide) ?_
        refine lv_goto (pc := 27) (tgt := 31) hx hb dX10_arePeriods_27 (by decide) ?_
        obtain rfl := so1 h
        exact bz_zret (pc := 31) X hM hr hlk (by decide) dX10_arePeriods_31 (Nat.le_of_ble_eq_true rfl) (Nat.le_of_ble_eq_true rfl)
theorem ctX10_arePeriods (l : Launch) {P : PT} {M : Mm} {a0 : Int32} {a1 : Int32} {r9 : Int32} (h : fX10_arePeriods M a0 a1 = some r9) : Ct l yX10_arePeriods cX10_arePeriods 2 (some .boolean) 2 0 P [.int a0, .int a1] M (some (.int r9)) M :=
  Ct.mk (by decide +kernel) (Nat.le_of_ble_eq_true rfl) (fun p e s m args below meth c hX => wX10_arePeriods hX M a0 a1 h)
set_option maxHeartbeats 4000000 in
set_option maxRecDepth 100000 in
theorem wBX10_stars_68 {p : Program} {l : Launch} {e : Env} {s : State} {m : MethodId} {args : Array Value} {below : List Frame} {meth : Method} {c : Code} {P : PT} {N : Nat} {K68 : Mm → Nat → Int32 → Int32 → Int32 → Int32 → Option (Int32 × Mm)}  {r9 : Int32} {M9 : Mm} (hX : Cy p s m args c meth cX10_stars 9 RX10 "stars" (some .int) P)  (hK68 : ∀ (M : Mm) (x0 : Nat) (x4 : Int32) (x5 : Int32) (x6 : Int32) (x7 : Int32), K68 M x0 x4 x5 x6 x7 = some (r9, M9) → Wq p l e s m args below meth c 5 0 (some (.int r9)) M9 9 P 0 68 [(0, .ref (pB P + x0)), (4, .int x4), (5, .int x5), (6, .int x6), (7, .int x7)] [] M) (M : Mm) (x0 : Nat) (x4 : Int32) (x5 : Int32) (x6 : Int32) (x7 : Int32)  (h : BX10_stars_68 N K68 M x0 x4 x5 x6 x7 = some (r9, M9)) : Wq p l e s m args below meth c 5 0 (some (.int r9)) M9 9 P 0 68 [(0, .ref (pB P + x0)), (4, .int x4), (5, .int x5), (6, .int x6), (7, .int x7)] [] M := by
  unfold BX10_stars_68 at h
  have hX0 := hX
  obtain ⟨X, hr, hlk, hnm⟩ := hX0
  have hx := X.1.1
  have hb := X.1.2.1
  intro H locs ls hM hl
  refine lv_iload (pc := 68) hx hb dX10_stars_68 (lv_at hl 4 rfl) ?_
  refine lv_iload (pc := 70) hx hb dX10_stars_70 (lv_at hl 1 rfl) ?_
  refine lv_icmp_gt (pc := 72) (tgt := 107) hx hb dX10_stars_72 (by decide) (fun hc => ?_) (fun hc => ?_)
  · have h := if_t hc h
    refine lv_iload (pc := 107) hx hb dX10_stars_107 (lv_at hl 2 rfl) ?_
    obtain ⟨rfl, rfl⟩ := so2 h
    exact bz_iret (pc := 109) X hM hr hlk dX10_stars_109 (Nat.le_of_ble_eq_true rfl) (Nat.le_of_ble_eq_true rfl)
  · have h := if_f hc h
    refine lv_aload_n (pc := 75) hx hb dX10_stars_75 rfl (lv_at hl 0 rfl) ?_
    obtain ⟨q1, e2, h⟩ := ob h
    refine bz_getQ (pc := 76) X hM fl_RX10_49 e2 dX10_stars_76 ?_
    refine lv_iload (pc := 79) hx hb dX10_stars_79 (lv_at hl 4 rfl) ?_
    obtain ⟨v4, M5, e3, h⟩ := ob2 h
    obtain ⟨fs6, hb7⟩ := (rX7_spreadBy e3)
    refine bz_callV1 (pc := 81) (As := [.int x7]) (rest := []) X hM hl.1 k_RX10_312 (ctX7_spreadBy l e3) rfl hb7 rfl rfl ⟨(Nat.le_of_ble_eq_true rfl), (Nat.le_of_ble_eq_true rfl)⟩ (Nat.le_of_ble_eq_true rfl) ⟨(Nat.le_of_ble_eq_true rfl), (Nat.le_of_ble_eq_true rfl)⟩ dX10_stars_81 (fun H locs hM => ?_)
    refine lv_istore (pc := 84) (lv' := [(8, .int v4), (0, .ref (pB P + x0)), (4, .int x4), (5, .int x5), (6, .int x6), (7, .int x7)]) hx hb dX10_stars_84 hl (by decide) rfl (fun ls hl => ?_)
    refine lv_iload (pc := 86) hx hb dX10_stars_86 (lv_at hl 0 rfl) ?_
    refine lv_iload (pc := 88) hx hb dX10_stars_88 (lv_at hl 4 rfl) ?_
    refine lv_icmp_le (pc := 90) (tgt := 101) hx hb dX10_stars_90 (by decide) (fun hc => ?_) (fun hc => ?_)
    · have h := if_t hc h
      refine lv_iinc (pc := 101) (v := (x7 + (1 : Int32))) (lv' := [(7, .int (x7 + (1 : Int32))), (8, .int v4), (0, .ref (pB P + x0)), (4, .int x4), (5, .int x5), (6, .int x6)]) hx hb dX10_stars_101 hl (k := 5) rfl rfl (by decide) rfl (fun ls hl => ?_)
      refine lv_goto (pc := 104) (tgt := 68) hx hb dX10_stars_104 (by decide) ?_
      exact hK68 _ _ _ _ _ _ h H locs ls hM (lv_sub hl [2, 3, 4, 5, 0] rfl)
    · have h := if_f hc h
      refine lv_iload (pc := 93) hx hb dX10_stars_93 (lv_at hl 5 rfl) ?_
      refine lv_istore (pc := 95) (lv' := [(5, .int x7), (8, .int v4), (0, .ref (pB P + x0)), (4, .int x4), (6, .int x6), (7, .int x7)]) hx hb dX10_stars_95 hl (by decide) rfl (fun ls hl => ?_)
      refine lv_iload (pc := 97) hx hb dX10_stars_97 (lv_at hl 1 rfl) ?_
      refine lv_istore (pc := 99) (lv' := [(6, .int v4), (5, .int x7), (8, .int v4), (0, .ref (pB P + x0)), (4, .int x4), (7, .int x7)]) hx hb dX10_stars_99 hl (by decide) rfl (fun ls hl => ?_)
      refine lv_iinc (pc := 101) (v := (x7 + (1 : Int32))) (lv' := [(7, .int (x7 + (1 : Int32))), (6, .int v4), (5, .int x7), (8, .int v4), (0, .ref (pB P + x0)), (4, .int x4)]) hx hb dX10_stars_101 hl (k := 5) rfl rfl (by decide) rfl (fun ls hl => ?_)
      refine lv_goto (pc := 104) (tgt := 68) hx hb dX10_stars_104 (by decide) ?_
      exact hK68 _ _ _ _ _ _ h H locs ls hM (lv_sub hl [4, 5, 2, 1, 0] rfl)
set_option maxHeartbeats 4000000 in
set_option maxRecDepth 100000 in
theorem wLX10_stars_68 {p : Program} {l : Launch} {e : Env} {s : State} {m : MethodId} {args : Array Value} {below : List Frame} {meth : Method} {c : Code} {P : PT} {N : Nat}  {r9 : Int32} {M9 : Mm} (hX : Cy p s m args c meth cX10_stars 9 RX10 "stars" (some .int) P)   : ∀ (n : Nat) (M : Mm) (x0 : Nat) (x4 : Int32) (x5 : Int32) (x6 : Int32) (x7 : Int32) , LX10_stars_68 N n M x0 x4 x5 x6 x7 = some (r9, M9) → Wq p l e s m args below meth c 5 0 (some (.int r9)) M9 9 P 0 68 [(0, .ref (pB P + x0)), (4, .int x4), (5, .int x5), (6, .int x6), (7, .int x7)] [] M := by
  intro n
  induction n with
  | zero => intro M x0 x4 x5 x6 x7 h; cases h
  | succ n ih => intro M x0 x4 x5 x6 x7 h; exact wBX10_stars_68 hX ih M x0 x4 x5 x6 x7 h
set_option maxHeartbeats 4000000 in
set_option maxRecDepth 100000 in
theorem wjX10_stars_24 {p : Program} {l : Launch} {e : Env} {s : State} {m : MethodId} {args : Array Value} {below : List Frame} {meth : Method} {c : Code} {P : PT} {N : Nat}  {r9 : Int32} {M9 : Mm} (hX : Cy p s m args c meth cX10_stars 9 RX10 "stars" (some .int) P)   (M : Mm) (x0 : Nat)  (h : jX10_stars_24 N M x0 = some (r9, M9)) : Wq p l e s m args below meth c 5 0 (some (.int r9)) M9 9 P 0 24 [(0, .ref (pB P + x0))] [] M := by
  unfold jX10_stars_24 at h
  have hX0 := hX
  obtain ⟨X, hr, hlk, hnm⟩ := hX0
  have hx := X.1.1
  have hb := X.1.2.1
  intro H locs ls hM hl
  refine lv_aload_n (pc := 24) hx hb dX10_stars_24 rfl (lv_at hl 0 rfl) ?_
  refine lv_iconst (pc := 25) (v := (1 : Int32)) hx hb dX10_stars_25 (by decide) ?_
  obtain ⟨v2, M3, e1, h⟩ := ob2 h
  obtain ⟨fs4, hb5⟩ := (rX10_error e1)
  refine bz_callV1 (pc := 26) (As := [.int (1 : Int32)]) (rest := []) X hM hl.1 k_RX10_78 (ctX10_error l e1) rfl hb5 rfl rfl ⟨(Nat.le_of_ble_eq_true rfl), (Nat.le_of_ble_eq_true rfl)⟩ (Nat.le_of_ble_eq_true rfl) ⟨(Nat.le_of_ble_eq_true rfl), (Nat.le_of_ble_eq_true rfl)⟩ dX10_stars_26 (fun H locs hM => ?_)
  obtain ⟨rfl, rfl⟩ := so2 h
  exact bz_iret (pc := 29) X hM hr hlk dX10_stars_29 (Nat.le_of_ble_eq_true rfl) (Nat.le_of_ble_eq_true rfl)
set_option maxHeartbeats 4000000 in
set_option maxRecDepth 100000 in
theorem wX10_stars {p : Program} {l : Launch} {e : Env} {s : State} {m : MethodId} {args : Array Value} {below : List Frame} {meth : Method} {c : Code} {P : PT} {N : Nat}  {r9 : Int32} {M9 : Mm} (hX : Cy p s m args c meth cX10_stars 9 RX10 "stars" (some .int) P)  (M : Mm) (a0 : Nat) (a1 : Int32) (a2 : Int32) (a3 : Int32) (a4 : Int32) (h : fX10_stars N M a0 a1 a2 a3 a4 = some (r9, M9)) : Wq p l e s m args below meth c 5 0 (some (.int r9)) M9 9 P 0 0 [(0, .ref (pB P + a0)), (1, .int a1), (2, .int a2), (3, .int a3), (4, .int a4)] [] M := by
  unfold fX10_stars at h
  obtain ⟨_, _, h⟩ := ob h
  have hX0 := hX
  obtain ⟨X, hr, hlk, hnm⟩ := hX0
  have hx := X.1.1
  have hb := X.1.2.1
  intro H locs ls hM hl
  refine lv_aload_n (pc := 0) hx hb dX10_stars_0 rfl (lv_at hl 0 rfl) ?_
  refine lv_iload_n (pc := 1) hx hb dX10_stars_1 rfl (lv_at hl 1 rfl) ?_
  obtain ⟨v2, e1, h⟩ := ob h
  obtain ⟨fs3, hb4⟩ := (rX10_isBar e1)
  refine bz_callV1 (pc := 2) (As := [.int a1]) (rest := []) X hM hl.1 k_RX10_100 (ctX10_isBar l e1) rfl hb4 rfl rfl ⟨(Nat.le_of_ble_eq_true rfl), (Nat.le_of_ble_eq_true rfl)⟩ (Nat.le_of_ble_eq_true rfl) ⟨(Nat.le_of_ble_eq_true rfl), (Nat.le_of_ble_eq_true rfl)⟩ dX10_stars_2 (fun H locs hM => ?_)
  refine lv_if_eq (pc := 5) (tgt := 24) hx hb dX10_stars_5 (by decide) (fun hc => ?_) (fun hc => ?_)
  · have h := if_t hc h
    exact wjX10_stars_24 hX _ _ h H locs ls hM (lv_sub hl [0] rfl)
  · have h := if_f hc h
    refine lv_iload_n (pc := 8) hx hb dX10_stars_8 rfl (lv_at hl 2 rfl) ?_
    obtain ⟨v6, e5, h⟩ := ob h
    refine bz_callS1 (pc := 9) (As := [.int a2]) (rest := []) X hM hl.1 k_RX10_145 (ctX10_isLine l e5) rfl rfl ⟨(Nat.le_of_ble_eq_true rfl), (Nat.le_of_ble_eq_true rfl)⟩ (Nat.le_of_ble_eq_true rfl) ⟨(Nat.le_of_ble_eq_true rfl), (Nat.le_of_ble_eq_true rfl)⟩ dX10_stars_9 (fun H locs hM => ?_)
    refine lv_if_eq (pc := 12) (tgt := 24) hx hb dX10_stars_12 (by decide) (fun hc => ?_) (fun hc => ?_)
    · have h := if_t hc h
      exact wjX10_stars_24 hX _ _ h H locs ls hM (lv_sub hl [0] rfl)
    · have h := if_f hc h
      refine lv_iload_n (pc := 15) hx hb dX10_stars_15 rfl (lv_at hl 3 rfl) ?_
      refine lv_iload (pc := 16) hx hb dX10_stars_16 (lv_at hl 4 rfl) ?_
      obtain ⟨v8, e7, h⟩ := ob h
      refine bz_callS1 (pc := 18) (As := [.int a3, .int a4]) (rest := []) X hM hl.1 k_RX10_315 (ctX10_arePeriods l e7) rfl rfl ⟨(Nat.le_of_ble_eq_true rfl), (Nat.le_of_ble_eq_true rfl)⟩ (Nat.le_of_ble_eq_true rfl) ⟨(Nat.le_of_ble_eq_true rfl), (Nat.le_of_ble_eq_true rfl)⟩ dX10_stars_18 (fun H locs hM => ?_)
      refine lv_if_ne (pc := 21) (tgt := 30) hx hb dX10_stars_21 (by decide) (fun hc => ?_) (fun hc => ?_)
      · have h := if_f hc h
        refine lv_aload_n (pc := 30) hx hb dX10_stars_30 rfl (lv_at hl 0 rfl) ?_
        obtain ⟨q9, e10, h⟩ := ob h
        refine bz_getQ (pc := 31) X hM fl_RX10_49 e10 dX10_stars_31 ?_
        refine lv_aload_n (pc := 34) hx hb dX10_stars_34 rfl (lv_at hl 0 rfl) ?_
        obtain ⟨q11, e12, h⟩ := ob h
        refine bz_getQ (pc := 35) X hM fl_RX10_10 e12 dX10_stars_35 ?_
        refine lv_iload_n (pc := 38) hx hb dX10_stars_38 rfl (lv_at hl 1 rfl) ?_
        obtain ⟨M14, e13, h⟩ := ob h
        obtain ⟨fs15, hb16⟩ := (rX7_hear e13)
        refine bz_callV0 (pc := 39) (As := [.ref (pB P + q11), .int a1]) (rest := []) X hM hl.1 k_RX10_148 (ctX7_hear l e13) rfl hb16 rfl rfl ⟨(Nat.le_of_ble_eq_true rfl), (Nat.le_of_ble_eq_true rfl)⟩ (Nat.le_of_ble_eq_true rfl) ⟨(Nat.le_of_ble_eq_true rfl), (Nat.le_of_ble_eq_true rfl)⟩ dX10_stars_39 (fun H locs hM => ?_)
        refine lv_aload_n (pc := 42) hx hb dX10_stars_42 rfl (lv_at hl 0 rfl) ?_
        obtain ⟨q17, e18, h⟩ := ob h
        refine bz_getQ (pc := 43) X hM fl_RX10_49 e18 dX10_stars_43 ?_
        refine lv_iload_n (pc := 46) hx hb dX10_stars_46 rfl (lv_at hl 2 rfl) ?_
        obtain ⟨M20, e19, h⟩ := ob h
        obtain ⟨fs21, hb22⟩ := (rX7_keepAbove e19)
        refine bz_callV0 (pc := 47) (As := [.int a2]) (rest := []) X hM hl.1 k_RX10_293 (ctX7_keepAbove l e19) rfl hb22 rfl rfl ⟨(Nat.le_of_ble_eq_true rfl), (Nat.le_of_ble_eq_true rfl)⟩ (Nat.le_of_ble_eq_true rfl) ⟨(Nat.le_of_ble_eq_true rfl), (Nat.le_of_ble_eq_true rfl)⟩ dX10_stars_47 (fun H locs hM => ?_)
        refine lv_iload_n (pc := 50) hx hb dX10_stars_50 rfl (lv_at hl 3 rfl) ?_
        refine lv_istore (pc := 51) (lv' := [(5, .int a3), (0, .ref (pB P + a0)), (1, .int a1), (2, .int a2), (3, .int a3), (4, .int a4)]) hx hb dX10_stars_51 hl (by decide) rfl (fun ls hl => ?_)
        refine lv_aload_n (pc := 53) hx hb dX10_stars_53 rfl (lv_at hl 1 rfl) ?_
        obtain ⟨q23, e24, h⟩ := ob h
        refine bz_getQ (pc := 54) X hM fl_RX10_49 e24 dX10_stars_54 ?_
        refine lv_iload_n (pc := 57) hx hb dX10_stars_57 rfl (lv_at hl 4 rfl) ?_
        obtain ⟨v26, M27, e25, h⟩ := ob2 h
        obtain ⟨fs28, hb29⟩ := (rX7_spreadBy e25)
        refine bz_callV1 (pc := 58) (As := [.int a3]) (rest := []) X hM hl.1 k_RX10_312 (ctX7_spreadBy l e25) rfl hb29 rfl rfl ⟨(Nat.le_of_ble_eq_true rfl), (Nat.le_of_ble_eq_true rfl)⟩ (Nat.le_of_ble_eq_true rfl) ⟨(Nat.le_of_ble_eq_true rfl), (Nat.le_of_ble_eq_true rfl)⟩ dX10_stars_58 (fun H locs hM => ?_)
        refine lv_istore (pc := 61) (lv' := [(6, .int v26), (5, .int a3), (0, .ref (pB P + a0)), (1, .int a1), (2, .int a2), (3, .int a3), (4, .int a4)]) hx hb dX10_stars_61 hl (by decide) rfl (fun ls hl => ?_)
        refine lv_iload_n (pc := 63) hx hb dX10_stars_63 rfl (lv_at hl 5 rfl) ?_
        refine lv_iconst (pc := 64) (v := (1 : Int32)) hx hb dX10_stars_64 (by decide) ?_
        refine lv_iadd (pc := 65) hx hb dX10_stars_65 ?_
        refine lv_istore (pc := 66) (lv' := [(7, .int (a3 + (1 : Int32))), (6, .int v26), (5, .int a3), (0, .ref (pB P + a0)), (1, .int a1), (2, .int a2), (3, .int a3), (4, .int a4)]) hx hb dX10_stars_66 hl (by decide) rfl (fun ls hl => ?_)
        exact wLX10_stars_68 hX _ _ _ _ _ _ _ h H locs ls hM (lv_sub hl [3, 7, 2, 1, 0] rfl)
      · have h := if_t hc h
        exact wjX10_stars_24 hX _ _ h H locs ls hM (lv_sub hl [0] rfl)
theorem rX10_stars {N : Nat} {M : Mm} {a0 : Nat} {a1 : Int32} {a2 : Int32} {a3 : Int32} {a4 : Int32} {r9 : Int32 × Mm} (h : fX10_stars N M a0 a1 a2 a3 a4 = some r9) : ∃ fs, M[a0]? = some (.inr (10, fs)) := by
  unfold fX10_stars at h
  obtain ⟨_, e1, _⟩ := ob h
  exact gC_spec e1
theorem ctX10_stars (l : Launch) {P : PT} {N : Nat} {M : Mm} {a0 : Nat} {a1 : Int32} {a2 : Int32} {a3 : Int32} {a4 : Int32} {r9 : Int32} {M9 : Mm} (h : fX10_stars N M a0 a1 a2 a3 a4 = some (r9, M9)) : Ct l yX10_stars cX10_stars 9 (some .int) 5 0 P [.ref (pB P + a0), .int a1, .int a2, .int a3, .int a4] M (some (.int r9)) M9 :=
  Ct.mk (by decide +kernel) (Nat.le_of_ble_eq_true rfl) (fun p e s m args below meth c hX => wX10_stars hX M a0 a1 a2 a3 a4 h)
set_option maxHeartbeats 4000000 in
set_option maxRecDepth 100000 in
theorem wX11_areStars {p : Program} {l : Launch} {e : Env} {s : State} {m : MethodId} {args : Array Value} {below : List Frame} {meth : Method} {c : Code} {P : PT}  {r9 : Int32} (hX : Cy p s m args c meth cX11_areStars 5 RX11 "areStars" (some .boolean) P)  (M : Mm) (a0 : Nat) (a1 : Int32) (a2 : Int32) (a3 : Int32) (a4 : Int32) (h : fX11_areStars M a0 a1 a2 a3 a4 = some r9) : Wq p l e s m args below meth c 2 0 (some (.int r9)) M 5 P 0 0 [(0, .ref (pB P + a0)), (1, .int a1), (2, .int a2), (3, .int a3), (4, .int a4)] [] M := by
  unfold fX11_areStars at h
  obtain ⟨_, _, h⟩ := ob h
  have hX0 := hX
  obtain ⟨X, hr, hlk, hnm⟩ := hX0
  have hx := X.1.1
  have hb := X.1.2.1
  intro H locs ls hM hl
  refine lv_aload_n (pc := 0) hx hb dX11_areStars_0 rfl (lv_at hl 0 rfl) ?_
  refine lv_iload_n (pc := 1) hx hb dX11_areStars_1 rfl (lv_at hl 1 rfl) ?_
  obtain ⟨v2, e1, h⟩ := ob h
  obtain ⟨fs3, hb4⟩ := (rX11_isBar e1)
  refine bz_callV1 (pc := 2) (As := [.int a1]) (rest := []) X hM hl.1 k_RX11_65 (ctX11_isBar l e1) rfl hb4 rfl rfl ⟨(Nat.le_of_ble_eq_true rfl), (Nat.le_of_ble_eq_true rfl)⟩ (Nat.le_of_ble_eq_true rfl) ⟨(Nat.le_of_ble_eq_true rfl), (Nat.le_of_ble_eq_true rfl)⟩ dX11_areStars_2 (fun H locs hM => ?_)
  refine lv_if_eq (pc := 5) (tgt := 49) hx hb dX11_areStars_5 (by decide) (fun hc => ?_) (fun hc => ?_)
  · have h := if_t hc h
    refine lv_iconst (pc := 49) (v := (0 : Int32)) hx hb dX11_areStars_49 (by decide) ?_
    obtain rfl := so1 h
    exact bz_zret (pc := 50) X hM hr hlk (by decide) dX11_areStars_50 (Nat.le_of_ble_eq_true rfl) (Nat.le_of_ble_eq_true rfl)
  · have h := if_f hc h
    refine lv_iload_n (pc := 8) hx hb dX11_areStars_8 rfl (lv_at hl 2 rfl) ?_
    obtain ⟨v6, e5, h⟩ := ob h
    refine bz_callS1 (pc := 9) (As := [.int a2]) (rest := []) X hM hl.1 k_RX11_117 (ctX11_isLine l e5) rfl rfl ⟨(Nat.le_of_ble_eq_true rfl), (Nat.le_of_ble_eq_true rfl)⟩ (Nat.le_of_ble_eq_true rfl) ⟨(Nat.le_of_ble_eq_true rfl), (Nat.le_of_ble_eq_true rfl)⟩ dX11_areStars_9 (fun H locs hM => ?_)
    refine lv_if_eq (pc := 12) (tgt := 49) hx hb dX11_areStars_12 (by decide) (fun hc => ?_) (fun hc => ?_)
    · have h := if_t hc h
      refine lv_iconst (pc := 49) (v := (0 : Int32)) hx hb dX11_areStars_49 (by decide) ?_
      obtain rfl := so1 h
      exact bz_zret (pc := 50) X hM hr hlk (by decide) dX11_areStars_50 (Nat.le_of_ble_eq_true rfl) (Nat.le_of_ble_eq_true rfl)
    · have h := if_f hc h
      refine lv_iload_n (pc := 15) hx hb dX11_areStars_15 rfl (lv_at hl 3 rfl) ?_
      obtain ⟨v8, e7, h⟩ := ob h
      refine bz_callS1 (pc := 16) (As := [.int a3]) (rest := []) X hM hl.1 k_RX11_282 (ctX11_isPeriod l e7) rfl rfl ⟨(Nat.le_of_ble_eq_true rfl), (Nat.le_of_ble_eq_true rfl)⟩ (Nat.le_of_ble_eq_true rfl) ⟨(Nat.le_of_ble_eq_true rfl), (Nat.le_of_ble_eq_true rfl)⟩ dX11_areStars_16 (fun H locs hM => ?_)
      refine lv_if_eq (pc := 19) (tgt := 49) hx hb dX11_areStars_19 (by decide) (fun hc => ?_) (fun hc => ?_)
      · have h := if_t hc h
        refine lv_iconst (pc := 49) (v := (0 : Int32)) hx hb dX11_areStars_49 (by decide) ?_
        obtain rfl := so1 h
        exact bz_zret (pc := 50) X hM hr hlk (by decide) dX11_areStars_50 (Nat.le_of_ble_eq_true rfl) (Nat.le_of_ble_eq_true rfl)
      · have h := if_f hc h
        refine lv_iload (pc := 22) hx hb dX11_areStars_22 (lv_at hl 4 rfl) ?_
        obtain ⟨v10, e9, h⟩ := ob h
        refine bz_callS1 (pc := 24) (As := [.int a4]) (rest := []) X hM hl.1 k_RX11_282 (ctX11_isPeriod l e9) rfl rfl ⟨(Nat.le_of_ble_eq_true rfl), (Nat.le_of_ble_eq_true rfl)⟩ (Nat.le_of_ble_eq_true rfl) ⟨(Nat.le_of_ble_eq_true rfl), (Nat.le_of_ble_eq_true rfl)⟩ dX11_areStars_24 (fun H locs hM => ?_)
        refine lv_if_eq (pc := 27) (tgt := 49) hx hb dX11_areStars_27 (by decide) (fun hc => ?_) (fun hc => ?_)
        · have h := if_t hc h
          refine lv_iconst (pc := 49) (v := (0 : Int32)) hx hb dX11_areStars_49 (by decide) ?_
          obtain rfl := so1 h
          exact bz_zret (pc := 50) X hM hr hlk (by decide) dX11_areStars_50 (Nat.le_of_ble_eq_true rfl) (Nat.le_of_ble_eq_true rfl)
        · have h := if_f hc h
          refine lv_iload (pc := 30) hx hb dX11_areStars_30 (lv_at hl 4 rfl) ?_
          refine lv_iload_n (pc := 32) hx hb dX11_areStars_32 rfl (lv_at hl 3 rfl) ?_
          refine lv_isub (pc := 33) hx hb dX11_areStars_33 ?_
          refine lv_i2l (pc := 34) (v := (((a4 - a3)).toInt64)) hx hb dX11_areStars_34 rfl ?_
          refine lv_lconst (pc := 35) (v := (0 : Int64)) hx hb dX11_areStars_35 (by decide) ?_
          refine lv_ldc2 (pc := 36) (v := (39 : Int64)) hx hb X.1.2.2.2.1 (X.1.2.2.2.2 _ g_1593) dX11_areStars_36 ?_
          obtain ⟨v12, e11, h⟩ := ob h
          refine bz_callS1 (pc := 39) (As := [.long (((a4 - a3)).toInt64), .long (0 : Int64), .long (39 : Int64)]) (rest := []) X hM hl.1 k_RX11_57 (ctX11_in l e11) rfl rfl ⟨(Nat.le_of_ble_eq_true rfl), (Nat.le_of_ble_eq_true rfl)⟩ (Nat.le_of_ble_eq_true rfl) ⟨(Nat.le_of_ble_eq_true rfl), (Nat.le_of_ble_eq_true rfl)⟩ dX11_areStars_39 (fun H locs hM => ?_)
          refine lv_if_eq (pc := 42) (tgt := 49) hx hb dX11_areStars_42 (by decide) (fun hc => ?_) (fun hc => ?_)
          · have h := if_t hc h
            refine lv_iconst (pc := 49) (v := (0 : Int32)) hx hb dX11_areStars_49 (by decide) ?_
            obtain rfl := so1 h
            exact bz_zret (pc := 50) X hM hr hlk (by decide) dX11_areStars_50 (Nat.le_of_ble_eq_true rfl) (Nat.le_of_ble_eq_true rfl)
          · have h := if_f hc h
            refine lv_iconst (pc := 45) (v := (1 : Int32)) hx hb dX11_areStars_45 (by decide) ?_
            refine lv_goto (pc := 46) (tgt := 50) hx hb dX11_areStars_46 (by decide) ?_
            obtain rfl := so1 h
            exact bz_zret (pc := 50) X hM hr hlk (by decide) dX11_areStars_50 (Nat.le_of_ble_eq_true rfl) (Nat.le_of_ble_eq_true rfl)
theorem rX11_areStars {M : Mm} {a0 : Nat} {a1 : Int32} {a2 : Int32} {a3 : Int32} {a4 : Int32} {r9 : Int32} (h : fX11_areStars M a0 a1 a2 a3 a4 = some r9) : ∃ fs, M[a0]? = some (.inr (11, fs)) := by
  unfold fX11_areStars at h
  obtain ⟨_, e1, _⟩ := ob h
  exact gC_spec e1
theorem ctX11_areStars (l : Launch) {P : PT} {M : Mm} {a0 : Nat} {a1 : Int32} {a2 : Int32} {a3 : Int32} {a4 : Int32} {r9 : Int32} (h : fX11_areStars M a0 a1 a2 a3 a4 = some r9) : Ct l yX11_areStars cX11_areStars 5 (some .boolean) 2 0 P [.ref (pB P + a0), .int a1, .int a2, .int a3, .int a4] M (some (.int r9)) M :=
  Ct.mk (by decide +kernel) (Nat.le_of_ble_eq_true rfl) (fun p e s m args below meth c hX => wX11_areStars hX M a0 a1 a2 a3 a4 h)
set_option maxHeartbeats 4000000 in
set_option maxRecDepth 100000 in
theorem wBX11_stars_39 {p : Program} {l : Launch} {e : Env} {s : State} {m : MethodId} {args : Array Value} {below : List Frame} {meth : Method} {c : Code} {P : PT} {N : Nat} {K39 : Mm → Nat → Int32 → Int32 → Int32 → Int32 → Int32 → Int32 → Option (Int32 × Mm)}  {r9 : Int32} {M9 : Mm} (hX : Cy p s m args c meth cX11_stars 9 RX11 "stars" (some .int) P)  (hK39 : ∀ (M : Mm) (x0 : Nat) (x1 : Int32) (x2 : Int32) (x4 : Int32) (x5 : Int32) (x6 : Int32) (x7 : Int32), K39 M x0 x1 x2 x4 x5 x6 x7 = some (r9, M9) → Wq p l e s m args below meth c 4 0 (some (.int r9)) M9 9 P 0 39 [(0, .ref (pB P + x0)), (1, .int x1), (2, .int x2), (4, .int x4), (5, .int x5), (6, .int x6), (7, .int x7)] [] M) (M : Mm) (x0 : Nat) (x1 : Int32) (x2 : Int32) (x4 : Int32) (x5 : Int32) (x6 : Int32) (x7 : Int32)  (h : BX11_stars_39 N K39 M x0 x1 x2 x4 x5 x6 x7 = some (r9, M9)) : Wq p l e s m args below meth c 4 0 (some (.int r9)) M9 9 P 0 39 [(0, .ref (pB P + x0)), (1, .int x1), (2, .int x2), (4, .int x4), (5, .int x5), (6, .int x6), (7, .int x7)] [] M := by
  unfold BX11_stars_39 at h
  have hX0 := hX
  obtain ⟨X, hr, hlk, hnm⟩ := hX0
  have hx := X.1.1
  have hb := X.1.2.1
  intro H locs ls hM hl
  refine lv_iload (pc := 39) hx hb dX11_stars_39 (lv_at hl 6 rfl) ?_
  refine lv_iload (pc := 41) hx hb dX11_stars_41 (lv_at hl 3 rfl) ?_
  refine lv_icmp_gt (pc := 43) (tgt := 80) hx hb dX11_stars_43 (by decide) (fun hc => ?_) (fun hc => ?_)
  · have h := if_t hc h
    refine lv_iload (pc := 80) hx hb dX11_stars_80 (lv_at hl 4 rfl) ?_
    obtain ⟨rfl, rfl⟩ := so2 h
    exact bz_iret (pc := 82) X hM hr hlk dX11_stars_82 (Nat.le_of_ble_eq_true rfl) (Nat.le_of_ble_eq_true rfl)
  · have h := if_f hc h
    refine lv_aload_n (pc := 46) hx hb dX11_stars_46 rfl (lv_at hl 0 rfl) ?_
    refine lv_iload_n (pc := 47) hx hb dX11_stars_47 rfl (lv_at hl 1 rfl) ?_
    refine lv_iload_n (pc := 48) hx hb dX11_stars_48 rfl (lv_at hl 2 rfl) ?_
    refine lv_iload (pc := 49) hx hb dX11_stars_49 (lv_at hl 6 rfl) ?_
    obtain ⟨v2, M3, e1, h⟩ := ob2 h
    obtain ⟨fs4, hb5⟩ := (rX11_spreadOf e1)
    refine bz_callV1 (pc := 51) (As := [.int x1, .int x2, .int x7]) (rest := []) X hM hl.1 k_RX11_285 (ctX11_spreadOf l e1) rfl hb5 rfl rfl ⟨(Nat.le_of_ble_eq_true rfl), (Nat.le_of_ble_eq_true rfl)⟩ (Nat.le_of_ble_eq_true rfl) ⟨(Nat.le_of_ble_eq_true rfl), (Nat.le_of_ble_eq_true rfl)⟩ dX11_stars_51 (fun H locs hM => ?_)
    refine lv_istore (pc := 54) (lv' := [(8, .int v2), (0, .ref (pB P + x0)), (1, .int x1), (2, .int x2), (4, .int x4), (5, .int x5), (6, .int x6), (7, .int x7)]) hx hb dX11_stars_54 hl (by decide) rfl (fun ls hl => ?_)
    refine lv_iload (pc := 56) hx hb dX11_stars_56 (lv_at hl 0 rfl) ?_
    refine lv_iload (pc := 58) hx hb dX11_stars_58 (lv_at hl 6 rfl) ?_
    refine lv_icmp_gt (pc := 60) (tgt := 66) hx hb dX11_stars_60 (by decide) (fun hc => ?_) (fun hc => ?_)
    · have h := if_t hc h
      refine lv_iload (pc := 66) hx hb dX11_stars_66 (lv_at hl 7 rfl) ?_
      refine lv_istore (pc := 68) (lv' := [(5, .int x7), (8, .int v2), (0, .ref (pB P + x0)), (1, .int x1), (2, .int x2), (4, .int x4), (6, .int x6), (7, .int x7)]) hx hb dX11_stars_68 hl (by decide) rfl (fun ls hl => ?_)
      refine lv_iload (pc := 70) hx hb dX11_stars_70 (lv_at hl 1 rfl) ?_
      refine lv_istore (pc := 72) (lv' := [(6, .int v2), (5, .int x7), (8, .int v2), (0, .ref (pB P + x0)), (1, .int x1), (2, .int x2), (4, .int x4), (7, .int x7)]) hx hb dX11_stars_72 hl (by decide) rfl (fun ls hl => ?_)
      refine lv_iinc (pc := 74) (v := (x7 + (1 : Int32))) (lv' := [(7, .int (x7 + (1 : Int32))), (6, .int v2), (5, .int x7), (8, .int v2), (0, .ref (pB P + x0)), (1, .int x1), (2, .int x2), (4, .int x4)]) hx hb dX11_stars_74 hl (k := 7) rfl rfl (by decide) rfl (fun ls hl => ?_)
      refine lv_goto (pc := 77) (tgt := 39) hx hb dX11_stars_77 (by decide) ?_
      exact hK39 _ _ _ _ _ _ _ _ h H locs ls hM (lv_sub hl [4, 5, 6, 7, 2, 1, 0] rfl)
    · have h := if_f hc h
      refine lv_goto (pc := 63) (tgt := 74) hx hb dX11_stars_63 (by decide) ?_
      refine lv_iinc (pc := 74) (v := (x7 + (1 : Int32))) (lv' := [(7, .int (x7 + (1 : Int32))), (8, .int v2), (0, .ref (pB P + x0)), (1, .int x1), (2, .int x2), (4, .int x4), (5, .int x5), (6, .int x6)]) hx hb dX11_stars_74 hl (k := 7) rfl rfl (by decide) rfl (fun ls hl => ?_)
      refine lv_goto (pc := 77) (tgt := 39) hx hb dX11_stars_77 (by decide) ?_
      exact hK39 _ _ _ _ _ _ _ _ h H locs ls hM (lv_sub hl [2, 3, 4, 5, 6, 7, 0] rfl)
set_option maxHeartbeats 4000000 in
set_option maxRecDepth 100000 in
theorem wLX11_stars_39 {p : Program} {l : Launch} {e : Env} {s : State} {m : MethodId} {args : Array Value} {below : List Frame} {meth : Method} {c : Code} {P : PT} {N : Nat}  {r9 : Int32} {M9 : Mm} (hX : Cy p s m args c meth cX11_stars 9 RX11 "stars" (some .int) P)   : ∀ (n : Nat) (M : Mm) (x0 : Nat) (x1 : Int32) (x2 : Int32) (x4 : Int32) (x5 : Int32) (x6 : Int32) (x7 : Int32) , LX11_stars_39 N n M x0 x1 x2 x4 x5 x6 x7 = some (r9, M9) → Wq p l e s m args below meth c 4 0 (some (.int r9)) M9 9 P 0 39 [(0, .ref (pB P + x0)), (1, .int x1), (2, .int x2), (4, .int x4), (5, .int x5), (6, .int x6), (7, .int x7)] [] M := by
  intro n
  induction n with
  | zero => intro M x0 x1 x2 x4 x5 x6 x7 h; cases h
  | succ n ih => intro M x0 x1 x2 x4 x5 x6 x7 h; exact wBX11_stars_39 hX ih M x0 x1 x2 x4 x5 x6 x7 h
set_option maxHeartbeats 4000000 in
set_option maxRecDepth 100000 in
theorem wX11_stars {p : Program} {l : Launch} {e : Env} {s : State} {m : MethodId} {args : Array Value} {below : List Frame} {meth : Method} {c : Code} {P : PT} {N : Nat}  {r9 : Int32} {M9 : Mm} (hX : Cy p s m args c meth cX11_stars 9 RX11 "stars" (some .int) P)  (M : Mm) (a0 : Nat) (a1 : Int32) (a2 : Int32) (a3 : Int32) (a4 : Int32) (h : fX11_stars N M a0 a1 a2 a3 a4 = some (r9, M9)) : Wq p l e s m args below meth c 4 0 (some (.int r9)) M9 9 P 0 0 [(0, .ref (pB P + a0)), (1, .int a1), (2, .int a2), (3, .int a3), (4, .int a4)] [] M := by
  unfold fX11_stars at h
  obtain ⟨_, _, h⟩ := ob h
  have hX0 := hX
  obtain ⟨X, hr, hlk, hnm⟩ := hX0
  have hx := X.1.1
  have hb := X.1.2.1
  intro H locs ls hM hl
  refine lv_aload_n (pc := 0) hx hb dX11_stars_0 rfl (lv_at hl 0 rfl) ?_
  refine lv_iload_n (pc := 1) hx hb dX11_stars_1 rfl (lv_at hl 1 rfl) ?_
  refine lv_iload_n (pc := 2) hx hb dX11_stars_2 rfl (lv_at hl 2 rfl) ?_
  refine lv_iload_n (pc := 3) hx hb dX11_stars_3 rfl (lv_at hl 3 rfl) ?_
  refine lv_iload (pc := 4) hx hb dX11_stars_4 (lv_at hl 4 rfl) ?_
  obtain ⟨v2, e1, h⟩ := ob h
  obtain ⟨fs3, hb4⟩ := (rX11_areStars e1)
  refine bz_callV1 (pc := 6) (As := [.int a1, .int a2, .int a3, .int a4]) (rest := []) X hM hl.1 k_RX11_290 (ctX11_areStars l e1) rfl hb4 rfl rfl ⟨(Nat.le_of_ble_eq_true rfl), (Nat.le_of_ble_eq_true rfl)⟩ (Nat.le_of_ble_eq_true rfl) ⟨(Nat.le_of_ble_eq_true rfl), (Nat.le_of_ble_eq_true rfl)⟩ dX11_stars_6 (fun H locs hM => ?_)
  refine lv_if_ne (pc := 9) (tgt := 18) hx hb dX11_stars_9 (by decide) (fun hc => ?_) (fun hc => ?_)
  · have h := if_f hc h
    refine lv_aload_n (pc := 18) hx hb dX11_stars_18 rfl (lv_at hl 0 rfl) ?_
    obtain ⟨M6, e5, h⟩ := ob h
    obtain ⟨fs7, hb8⟩ := (rX11_readAll e5)
    refine bz_callV0 (pc := 19) (As := []) (rest := []) X hM hl.1 k_RX11_120 (ctX11_readAll l e5) rfl hb8 rfl rfl ⟨(Nat.le_of_ble_eq_true rfl), (Nat.le_of_ble_eq_true rfl)⟩ (Nat.le_of_ble_eq_true rfl) ⟨(Nat.le_of_ble_eq_true rfl), (Nat.le_of_ble_eq_true rfl)⟩ dX11_stars_19 (fun H locs hM => ?_)
    refine lv_iload_n (pc := 22) hx hb dX11_stars_22 rfl (lv_at hl 3 rfl) ?_
    refine lv_istore (pc := 23) (lv' := [(5, .int a3), (0, .ref (pB P + a0)), (1, .int a1), (2, .int a2), (3, .int a3), (4, .int a4)]) hx hb dX11_stars_23 hl (by decide) rfl (fun ls hl => ?_)
    refine lv_aload_n (pc := 25) hx hb dX11_stars_25 rfl (lv_at hl 1 rfl) ?_
    refine lv_iload_n (pc := 26) hx hb dX11_stars_26 rfl (lv_at hl 2 rfl) ?_
    refine lv_iload_n (pc := 27) hx hb dX11_stars_27 rfl (lv_at hl 3 rfl) ?_
    refine lv_iload_n (pc := 28) hx hb dX11_stars_28 rfl (lv_at hl 4 rfl) ?_
    obtain ⟨v10, M11, e9, h⟩ := ob2 h
    obtain ⟨fs12, hb13⟩ := (rX11_spreadOf e9)
    refine bz_callV1 (pc := 29) (As := [.int a1, .int a2, .int a3]) (rest := []) X hM hl.1 k_RX11_285 (ctX11_spreadOf l e9) rfl hb13 rfl rfl ⟨(Nat.le_of_ble_eq_true rfl), (Nat.le_of_ble_eq_true rfl)⟩ (Nat.le_of_ble_eq_true rfl) ⟨(Nat.le_of_ble_eq_true rfl), (Nat.le_of_ble_eq_true rfl)⟩ dX11_stars_29 (fun H locs hM => ?_)
    refine lv_istore (pc := 32) (lv' := [(6, .int v10), (5, .int a3), (0, .ref (pB P + a0)), (1, .int a1), (2, .int a2), (3, .int a3), (4, .int a4)]) hx hb dX11_stars_32 hl (by decide) rfl (fun ls hl => ?_)
    refine lv_iload_n (pc := 34) hx hb dX11_stars_34 rfl (lv_at hl 5 rfl) ?_
    refine lv_iconst (pc := 35) (v := (1 : Int32)) hx hb dX11_stars_35 (by decide) ?_
    refine lv_iadd (pc := 36) hx hb dX11_stars_36 ?_
    refine lv_istore (pc := 37) (lv' := [(7, .int (a3 + (1 : Int32))), (6, .int v10), (5, .int a3), (0, .ref (pB P + a0)), (1, .int a1), (2, .int a2), (3, .int a3), (4, .int a4)]) hx hb dX11_stars_37 hl (by decide) rfl (fun ls hl => ?_)
    exact wLX11_stars_39 hX _ _ _ _ _ _ _ _ _ h H locs ls hM (lv_sub hl [3, 4, 5, 7, 2, 1, 0] rfl)
  · have h := if_t hc h
    refine lv_aload_n (pc := 12) hx hb dX11_stars_12 rfl (lv_at hl 0 rfl) ?_
    refine lv_iconst (pc := 13) (v := (1 : Int32)) hx hb dX11_stars_13 (by decide) ?_
    obtain ⟨v15, M16, e14, h⟩ := ob2 h
    obtain ⟨fs17, hb18⟩ := (rX11_error e14)
    refine bz_callV1 (pc := 14) (As := [.int (1 : Int32)]) (rest := []) X hM hl.1 k_RX11_73 (ctX11_error l e14) rfl hb18 rfl rfl ⟨(Nat.le_of_ble_eq_true rfl), (Nat.le_of_ble_eq_true rfl)⟩ (Nat.le_of_ble_eq_true rfl) ⟨(Nat.le_of_ble_eq_true rfl), (Nat.le_of_ble_eq_true rfl)⟩ dX11_stars_14 (fun H locs hM => ?_)
    obtain ⟨rfl, rfl⟩ := so2 h
    exact bz_iret (pc := 17) X hM hr hlk dX11_stars_17 (Nat.le_of_ble_eq_true rfl) (Nat.le_of_ble_eq_true rfl)
theorem rX11_stars {N : Nat} {M : Mm} {a0 : Nat} {a1 : Int32} {a2 : Int32} {a3 : Int32} {a4 : Int32} {r9 : Int32 × Mm} (h : fX11_stars N M a0 a1 a2 a3 a4 = some r9) : ∃ fs, M[a0]? = some (.inr (11, fs)) := by
  unfold fX11_stars at h
  obtain ⟨_, e1, _⟩ := ob h
  exact gC_spec e1
theorem ctX11_stars (l : Launch) {P : PT} {N : Nat} {M : Mm} {a0 : Nat} {a1 : Int32} {a2 : Int32} {a3 : Int32} {a4 : Int32} {r9 : Int32} {M9 : Mm} (h : fX11_stars N M a0 a1 a2 a3 a4 = some (r9, M9)) : Ct l yX11_stars cX11_stars 9 (some .int) 4 0 P [.ref (pB P + a0), .int a1, .int a2, .int a3, .int a4] M (some (.int r9)) M9 :=
  Ct.mk (by decide +kernel) (Nat.le_of_ble_eq_true rfl) (fun p e s m args below meth c hX => wX11_stars hX M a0 a1 a2 a3 a4 h)
set_option maxHeartbeats 4000000 in
set_option maxRecDepth 100000 in
theorem wBX10_tried_75 {p : Program} {l : Launch} {e : Env} {s : State} {m : MethodId} {args : Array Value} {below : List Frame} {meth : Method} {c : Code} {P : PT} {N : Nat} {K75 : Mm → Nat → Int32 → Int32 → Int32 → Int32 → Option (Int32 × Mm)}  {r9 : Int32} {M9 : Mm} (hX : Cy p s m args c meth cX10_tried 9 RX10 "tried" (some .int) P)  (hK75 : ∀ (M : Mm) (x0 : Nat) (x4 : Int32) (x6 : Int32) (x7 : Int32) (x8 : Int32), K75 M x0 x4 x6 x7 x8 = some (r9, M9) → Wq p l e s m args below meth c 5 0 (some (.int r9)) M9 9 P 0 75 [(0, .ref (pB P + x0)), (4, .int x4), (6, .int x6), (7, .int x7), (8, .int x8)] [] M) (M : Mm) (x0 : Nat) (x4 : Int32) (x6 : Int32) (x7 : Int32) (x8 : Int32)  (h : BX10_tried_75 N K75 M x0 x4 x6 x7 x8 = some (r9, M9)) : Wq p l e s m args below meth c 5 0 (some (.int r9)) M9 9 P 0 75 [(0, .ref (pB P + x0)), (4, .int x4), (6, .int x6), (7, .int x7), (8, .int x8)] [] M := by
  unfold BX10_tried_75 at h
  have hX0 := hX
  obtain ⟨X, hr, hlk, hnm⟩ := hX0
  have hx := X.1.1
  have hb := X.1.2.1
  intro H locs ls hM hl
  refine lv_iload (pc := 75) hx hb dX10_tried_75 (lv_at hl 4 rfl) ?_
  refine lv_iload (pc := 77) hx hb dX10_tried_77 (lv_at hl 1 rfl) ?_
  refine lv_icmp_gt (pc := 79) (tgt := 105) hx hb dX10_tried_79 (by decide) (fun hc => ?_) (fun hc => ?_)
  · have h := if_t hc h
    refine lv_iload (pc := 105) hx hb dX10_tried_105 (lv_at hl 3 rfl) ?_
    obtain ⟨rfl, rfl⟩ := so2 h
    exact bz_iret (pc := 107) X hM hr hlk dX10_tried_107 (Nat.le_of_ble_eq_true rfl) (Nat.le_of_ble_eq_true rfl)
  · have h := if_f hc h
    refine lv_aload_n (pc := 82) hx hb dX10_tried_82 rfl (lv_at hl 0 rfl) ?_
    obtain ⟨q1, e2, h⟩ := ob h
    refine bz_getQ (pc := 83) X hM fl_RX10_49 e2 dX10_tried_83 ?_
    refine lv_iload (pc := 86) hx hb dX10_tried_86 (lv_at hl 4 rfl) ?_
    obtain ⟨v4, M5, e3, h⟩ := ob2 h
    obtain ⟨fs6, hb7⟩ := (rX7_spreadBy e3)
    refine bz_callV1 (pc := 88) (As := [.int x8]) (rest := []) X hM hl.1 k_RX10_312 (ctX7_spreadBy l e3) rfl hb7 rfl rfl ⟨(Nat.le_of_ble_eq_true rfl), (Nat.le_of_ble_eq_true rfl)⟩ (Nat.le_of_ble_eq_true rfl) ⟨(Nat.le_of_ble_eq_true rfl), (Nat.le_of_ble_eq_true rfl)⟩ dX10_tried_88 (fun H locs hM => ?_)
    refine lv_iload (pc := 91) hx hb dX10_tried_91 (lv_at hl 2 rfl) ?_
    refine lv_icmp_lt (pc := 93) (tgt := 99) hx hb dX10_tried_93 (by decide) (fun hc => ?_) (fun hc => ?_)
    · have h := if_t hc h
      refine lv_iinc (pc := 99) (v := (x8 + (1 : Int32))) (lv' := [(8, .int (x8 + (1 : Int32))), (0, .ref (pB P + x0)), (4, .int x4), (6, .int x6), (7, .int x7)]) hx hb dX10_tried_99 hl (k := 4) rfl rfl (by decide) rfl (fun ls hl => ?_)
      refine lv_goto (pc := 102) (tgt := 75) hx hb dX10_tried_102 (by decide) ?_
      exact hK75 _ _ _ _ _ _ h H locs ls hM (lv_sub hl [1, 2, 3, 4, 0] rfl)
    · have h := if_f hc h
      refine lv_iinc (pc := 96) (v := (x7 + (1 : Int32))) (lv' := [(7, .int (x7 + (1 : Int32))), (0, .ref (pB P + x0)), (4, .int x4), (6, .int x6), (8, .int x8)]) hx hb dX10_tried_96 hl (k := 3) rfl rfl (by decide) rfl (fun ls hl => ?_)
      refine lv_iinc (pc := 99) (v := (x8 + (1 : Int32))) (lv' := [(8, .int (x8 + (1 : Int32))), (7, .int (x7 + (1 : Int32))), (0, .ref (pB P + x0)), (4, .int x4), (6, .int x6)]) hx hb dX10_tried_99 hl (k := 4) rfl rfl (by decide) rfl (fun ls hl => ?_)
      refine lv_goto (pc := 102) (tgt := 75) hx hb dX10_tried_102 (by decide) ?_
      exact hK75 _ _ _ _ _ _ h H locs ls hM (lv_sub hl [2, 3, 4, 1, 0] rfl)
set_option maxHeartbeats 4000000 in
set_option maxRecDepth 100000 in
theorem wLX10_tried_75 {p : Program} {l : Launch} {e : Env} {s : State} {m : MethodId} {args : Array Value} {below : List Frame} {meth : Method} {c : Code} {P : PT} {N : Nat}  {r9 : Int32} {M9 : Mm} (hX : Cy p s m args c meth cX10_tried 9 RX10 "tried" (some .int) P)   : ∀ (n : Nat) (M : Mm) (x0 : Nat) (x4 : Int32) (x6 : Int32) (x7 : Int32) (x8 : Int32) , LX10_tried_75 N n M x0 x4 x6 x7 x8 = some (r9, M9) → Wq p l e s m args below meth c 5 0 (some (.int r9)) M9 9 P 0 75 [(0, .ref (pB P + x0)), (4, .int x4), (6, .int x6), (7, .int x7), (8, .int x8)] [] M := by
  intro n
  induction n with
  | zero => intro M x0 x4 x6 x7 x8 h; cases h
  | succ n ih => intro M x0 x4 x6 x7 x8 h; exact wBX10_tried_75 hX ih M x0 x4 x6 x7 x8 h
set_option maxHeartbeats 4000000 in
set_option maxRecDepth 100000 in
theorem wjX10_tried_32 {p : Program} {l : Launch} {e : Env} {s : State} {m : MethodId} {args : Array Value} {below : List Frame} {meth : Method} {c : Code} {P : PT} {N : Nat}  {r9 : Int32} {M9 : Mm} (hX : Cy p s m args c meth cX10_tried 9 RX10 "tried" (some .int) P)   (M : Mm) (x0 : Nat)  (h : jX10_tried_32 N M x0 = some (r9, M9)) : Wq p l e s m args below meth c 5 0 (some (.int r9)) M9 9 P 0 32 [(0, .ref (pB P + x0))] [] M := by
  unfold jX10_tried_32 at h
  have hX0 := hX
  obtain ⟨X, hr, hlk, hnm⟩ := hX0
  have hx := X.1.1
  have hb := X.1.2.1
  intro H locs ls hM hl
  refine lv_aload_n (pc := 32) hx hb dX10_tried_32 rfl (lv_at hl 0 rfl) ?_
  refine lv_iconst (pc := 33) (v := (1 : Int32)) hx hb dX10_tried_33 (by decide) ?_
  obtain ⟨v2, M3, e1, h⟩ := ob2 h
  obtain ⟨fs4, hb5⟩ := (rX10_error e1)
  refine bz_callV1 (pc := 34) (As := [.int (1 : Int32)]) (rest := []) X hM hl.1 k_RX10_78 (ctX10_error l e1) rfl hb5 rfl rfl ⟨(Nat.le_of_ble_eq_true rfl), (Nat.le_of_ble_eq_true rfl)⟩ (Nat.le_of_ble_eq_true rfl) ⟨(Nat.le_of_ble_eq_true rfl), (Nat.le_of_ble_eq_true rfl)⟩ dX10_tried_34 (fun H locs hM => ?_)
  obtain ⟨rfl, rfl⟩ := so2 h
  exact bz_iret (pc := 37) X hM hr hlk dX10_tried_37 (Nat.le_of_ble_eq_true rfl) (Nat.le_of_ble_eq_true rfl)
set_option maxHeartbeats 4000000 in
set_option maxRecDepth 100000 in
theorem wX10_tried {p : Program} {l : Launch} {e : Env} {s : State} {m : MethodId} {args : Array Value} {below : List Frame} {meth : Method} {c : Code} {P : PT} {N : Nat}  {r9 : Int32} {M9 : Mm} (hX : Cy p s m args c meth cX10_tried 9 RX10 "tried" (some .int) P)  (M : Mm) (a0 : Nat) (a1 : Int32) (a2 : Int32) (a3 : Int32) (a4 : Int32) (a5 : Int32) (h : fX10_tried N M a0 a1 a2 a3 a4 a5 = some (r9, M9)) : Wq p l e s m args below meth c 5 0 (some (.int r9)) M9 9 P 0 0 [(0, .ref (pB P + a0)), (1, .int a1), (2, .int a2), (3, .int a3), (4, .int a4), (5, .int a5)] [] M := by
  unfold fX10_tried at h
  obtain ⟨_, _, h⟩ := ob h
  have hX0 := hX
  obtain ⟨X, hr, hlk, hnm⟩ := hX0
  have hx := X.1.1
  have hb := X.1.2.1
  intro H locs ls hM hl
  refine lv_aload_n (pc := 0) hx hb dX10_tried_0 rfl (lv_at hl 0 rfl) ?_
  refine lv_iload_n (pc := 1) hx hb dX10_tried_1 rfl (lv_at hl 1 rfl) ?_
  obtain ⟨v2, e1, h⟩ := ob h
  obtain ⟨fs3, hb4⟩ := (rX10_isBar e1)
  refine bz_callV1 (pc := 2) (As := [.int a1]) (rest := []) X hM hl.1 k_RX10_100 (ctX10_isBar l e1) rfl hb4 rfl rfl ⟨(Nat.le_of_ble_eq_true rfl), (Nat.le_of_ble_eq_true rfl)⟩ (Nat.le_of_ble_eq_true rfl) ⟨(Nat.le_of_ble_eq_true rfl), (Nat.le_of_ble_eq_true rfl)⟩ dX10_tried_2 (fun H locs hM => ?_)
  refine lv_if_eq (pc := 5) (tgt := 32) hx hb dX10_tried_5 (by decide) (fun hc => ?_) (fun hc => ?_)
  · have h := if_t hc h
    exact wjX10_tried_32 hX _ _ h H locs ls hM (lv_sub hl [0] rfl)
  · have h := if_f hc h
    refine lv_iload_n (pc := 8) hx hb dX10_tried_8 rfl (lv_at hl 2 rfl) ?_
    obtain ⟨v6, e5, h⟩ := ob h
    refine bz_callS1 (pc := 9) (As := [.int a2]) (rest := []) X hM hl.1 k_RX10_145 (ctX10_isLine l e5) rfl rfl ⟨(Nat.le_of_ble_eq_true rfl), (Nat.le_of_ble_eq_true rfl)⟩ (Nat.le_of_ble_eq_true rfl) ⟨(Nat.le_of_ble_eq_true rfl), (Nat.le_of_ble_eq_true rfl)⟩ dX10_tried_9 (fun H locs hM => ?_)
    refine lv_if_eq (pc := 12) (tgt := 32) hx hb dX10_tried_12 (by decide) (fun hc => ?_) (fun hc => ?_)
    · have h := if_t hc h
      exact wjX10_tried_32 hX _ _ h H locs ls hM (lv_sub hl [0] rfl)
    · have h := if_f hc h
      refine lv_iload_n (pc := 15) hx hb dX10_tried_15 rfl (lv_at hl 3 rfl) ?_
      refine lv_iload (pc := 16) hx hb dX10_tried_16 (lv_at hl 4 rfl) ?_
      obtain ⟨v8, e7, h⟩ := ob h
      refine bz_callS1 (pc := 18) (As := [.int a3, .int a4]) (rest := []) X hM hl.1 k_RX10_315 (ctX10_arePeriods l e7) rfl rfl ⟨(Nat.le_of_ble_eq_true rfl), (Nat.le_of_ble_eq_true rfl)⟩ (Nat.le_of_ble_eq_true rfl) ⟨(Nat.le_of_ble_eq_true rfl), (Nat.le_of_ble_eq_true rfl)⟩ dX10_tried_18 (fun H locs hM => ?_)
      refine lv_if_eq (pc := 21) (tgt := 32) hx hb dX10_tried_21 (by decide) (fun hc => ?_) (fun hc => ?_)
      · have h := if_t hc h
        exact wjX10_tried_32 hX _ _ h H locs ls hM (lv_sub hl [0] rfl)
      · have h := if_f hc h
        refine lv_iload (pc := 24) hx hb dX10_tried_24 (lv_at hl 5 rfl) ?_
        obtain ⟨v10, e9, h⟩ := ob h
        refine bz_callS1 (pc := 26) (As := [.int a5]) (rest := []) X hM hl.1 k_RX10_309 (ctX10_isPeriod l e9) rfl rfl ⟨(Nat.le_of_ble_eq_true rfl), (Nat.le_of_ble_eq_true rfl)⟩ (Nat.le_of_ble_eq_true rfl) ⟨(Nat.le_of_ble_eq_true rfl), (Nat.le_of_ble_eq_true rfl)⟩ dX10_tried_26 (fun H locs hM => ?_)
        refine lv_if_ne (pc := 29) (tgt := 38) hx hb dX10_tried_29 (by decide) (fun hc => ?_) (fun hc => ?_)
        · have h := if_f hc h
          refine lv_aload_n (pc := 38) hx hb dX10_tried_38 rfl (lv_at hl 0 rfl) ?_
          obtain ⟨q11, e12, h⟩ := ob h
          refine bz_getQ (pc := 39) X hM fl_RX10_49 e12 dX10_tried_39 ?_
          refine lv_aload_n (pc := 42) hx hb dX10_tried_42 rfl (lv_at hl 0 rfl) ?_
          obtain ⟨q13, e14, h⟩ := ob h
          refine bz_getQ (pc := 43) X hM fl_RX10_10 e14 dX10_tried_43 ?_
          refine lv_iload_n (pc := 46) hx hb dX10_tried_46 rfl (lv_at hl 1 rfl) ?_
          obtain ⟨M16, e15, h⟩ := ob h
          obtain ⟨fs17, hb18⟩ := (rX7_hear e15)
          refine bz_callV0 (pc := 47) (As := [.ref (pB P + q13), .int a1]) (rest := []) X hM hl.1 k_RX10_148 (ctX7_hear l e15) rfl hb18 rfl rfl ⟨(Nat.le_of_ble_eq_true rfl), (Nat.le_of_ble_eq_true rfl)⟩ (Nat.le_of_ble_eq_true rfl) ⟨(Nat.le_of_ble_eq_true rfl), (Nat.le_of_ble_eq_true rfl)⟩ dX10_tried_47 (fun H locs hM => ?_)
          refine lv_aload_n (pc := 50) hx hb dX10_tried_50 rfl (lv_at hl 0 rfl) ?_
          obtain ⟨q19, e20, h⟩ := ob h
          refine bz_getQ (pc := 51) X hM fl_RX10_49 e20 dX10_tried_51 ?_
          refine lv_iload_n (pc := 54) hx hb dX10_tried_54 rfl (lv_at hl 2 rfl) ?_
          obtain ⟨M22, e21, h⟩ := ob h
          obtain ⟨fs23, hb24⟩ := (rX7_keepAbove e21)
          refine bz_callV0 (pc := 55) (As := [.int a2]) (rest := []) X hM hl.1 k_RX10_293 (ctX7_keepAbove l e21) rfl hb24 rfl rfl ⟨(Nat.le_of_ble_eq_true rfl), (Nat.le_of_ble_eq_true rfl)⟩ (Nat.le_of_ble_eq_true rfl) ⟨(Nat.le_of_ble_eq_true rfl), (Nat.le_of_ble_eq_true rfl)⟩ dX10_tried_55 (fun H locs hM => ?_)
          refine lv_aload_n (pc := 58) hx hb dX10_tried_58 rfl (lv_at hl 0 rfl) ?_
          obtain ⟨q25, e26, h⟩ := ob h
          refine bz_getQ (pc := 59) X hM fl_RX10_49 e26 dX10_tried_59 ?_
          refine lv_iload (pc := 62) hx hb dX10_tried_62 (lv_at hl 5 rfl) ?_
          obtain ⟨v28, M29, e27, h⟩ := ob2 h
          obtain ⟨fs30, hb31⟩ := (rX7_spreadBy e27)
          refine bz_callV1 (pc := 64) (As := [.int a5]) (rest := []) X hM hl.1 k_RX10_312 (ctX7_spreadBy l e27) rfl hb31 rfl rfl ⟨(Nat.le_of_ble_eq_true rfl), (Nat.le_of_ble_eq_true rfl)⟩ (Nat.le_of_ble_eq_true rfl) ⟨(Nat.le_of_ble_eq_true rfl), (Nat.le_of_ble_eq_true rfl)⟩ dX10_tried_64 (fun H locs hM => ?_)
          refine lv_istore (pc := 67) (lv' := [(6, .int v28), (0, .ref (pB P + a0)), (1, .int a1), (2, .int a2), (3, .int a3), (4, .int a4), (5, .int a5)]) hx hb dX10_tried_67 hl (by decide) rfl (fun ls hl => ?_)
          refine lv_iconst (pc := 69) (v := (0 : Int32)) hx hb dX10_tried_69 (by decide) ?_
          refine lv_istore (pc := 70) (lv' := [(7, .int (0 : Int32)), (6, .int v28), (0, .ref (pB P + a0)), (1, .int a1), (2, .int a2), (3, .int a3), (4, .int a4), (5, .int a5)]) hx hb dX10_tried_70 hl (by decide) rfl (fun ls hl => ?_)
          refine lv_iload_n (pc := 72) hx hb dX10_tried_72 rfl (lv_at hl 5 rfl) ?_
          refine lv_istore (pc := 73) (lv' := [(8, .int a3), (7, .int (0 : Int32)), (6, .int v28), (0, .ref (pB P + a0)), (1, .int a1), (2, .int a2), (3, .int a3), (4, .int a4), (5, .int a5)]) hx hb dX10_tried_73 hl (by decide) rfl (fun ls hl => ?_)
          exact wLX10_tried_75 hX _ _ _ _ _ _ _ h H locs ls hM (lv_sub hl [3, 7, 2, 1, 0] rfl)
        · have h := if_t hc h
          exact wjX10_tried_32 hX _ _ h H locs ls hM (lv_sub hl [0] rfl)
theorem rX10_tried {N : Nat} {M : Mm} {a0 : Nat} {a1 : Int32} {a2 : Int32} {a3 : Int32} {a4 : Int32} {a5 : Int32} {r9 : Int32 × Mm} (h : fX10_tried N M a0 a1 a2 a3 a4 a5 = some r9) : ∃ fs, M[a0]? = some (.inr (10, fs)) := by
  unfold fX10_tried at h
  obtain ⟨_, e1, _⟩ := ob h
  exact gC_spec e1
theorem ctX10_tried (l : Launch) {P : PT} {N : Nat} {M : Mm} {a0 : Nat} {a1 : Int32} {a2 : Int32} {a3 : Int32} {a4 : Int32} {a5 : Int32} {r9 : Int32} {M9 : Mm} (h : fX10_tried N M a0 a1 a2 a3 a4 a5 = some (r9, M9)) : Ct l yX10_tried cX10_tried 9 (some .int) 5 0 P [.ref (pB P + a0), .int a1, .int a2, .int a3, .int a4, .int a5] M (some (.int r9)) M9 :=
  Ct.mk (by decide +kernel) (Nat.le_of_ble_eq_true rfl) (fun p e s m args below meth c hX => wX10_tried hX M a0 a1 a2 a3 a4 a5 h)
set_option maxHeartbeats 4000000 in
set_option maxRecDepth 100000 in
theorem wBX11_tried_46 {p : Program} {l : Launch} {e : Env} {s : State} {m : MethodId} {args : Array Value} {below : List Frame} {meth : Method} {c : Code} {P : PT} {N : Nat} {K46 : Mm → Nat → Int32 → Int32 → Int32 → Int32 → Int32 → Int32 → Option (Int32 × Mm)}  {r9 : Int32} {M9 : Mm} (hX : Cy p s m args c meth cX11_tried 9 RX11 "tried" (some .int) P)  (hK46 : ∀ (M : Mm) (x0 : Nat) (x1 : Int32) (x2 : Int32) (x4 : Int32) (x6 : Int32) (x7 : Int32) (x8 : Int32), K46 M x0 x1 x2 x4 x6 x7 x8 = some (r9, M9) → Wq p l e s m args below meth c 4 0 (some (.int r9)) M9 9 P 0 46 [(0, .ref (pB P + x0)), (1, .int x1), (2, .int x2), (4, .int x4), (6, .int x6), (7, .int x7), (8, .int x8)] [] M) (M : Mm) (x0 : Nat) (x1 : Int32) (x2 : Int32) (x4 : Int32) (x6 : Int32) (x7 : Int32) (x8 : Int32)  (h : BX11_tried_46 N K46 M x0 x1 x2 x4 x6 x7 x8 = some (r9, M9)) : Wq p l e s m args below meth c 4 0 (some (.int r9)) M9 9 P 0 46 [(0, .ref (pB P + x0)), (1, .int x1), (2, .int x2), (4, .int x4), (6, .int x6), (7, .int x7), (8, .int x8)] [] M := by
  unfold BX11_tried_46 at h
  have hX0 := hX
  obtain ⟨X, hr, hlk, hnm⟩ := hX0
  have hx := X.1.1
  have hb := X.1.2.1
  intro H locs ls hM hl
  refine lv_iload (pc := 46) hx hb dX11_tried_46 (lv_at hl 6 rfl) ?_
  refine lv_iload (pc := 48) hx hb dX11_tried_48 (lv_at hl 3 rfl) ?_
  refine lv_icmp_gt (pc := 50) (tgt := 82) hx hb dX11_tried_50 (by decide) (fun hc => ?_) (fun hc => ?_)
  · have h := if_t hc h
    refine lv_iload (pc := 82) hx hb dX11_tried_82 (lv_at hl 5 rfl) ?_
    obtain ⟨rfl, rfl⟩ := so2 h
    exact bz_iret (pc := 84) X hM hr hlk dX11_tried_84 (Nat.le_of_ble_eq_true rfl) (Nat.le_of_ble_eq_true rfl)
  · have h := if_f hc h
    refine lv_iload (pc := 53) hx hb dX11_tried_53 (lv_at hl 5 rfl) ?_
    refine lv_aload_n (pc := 55) hx hb dX11_tried_55 rfl (lv_at hl 0 rfl) ?_
    refine lv_iload_n (pc := 56) hx hb dX11_tried_56 rfl (lv_at hl 1 rfl) ?_
    refine lv_iload_n (pc := 57) hx hb dX11_tried_57 rfl (lv_at hl 2 rfl) ?_
    refine lv_iload (pc := 58) hx hb dX11_tried_58 (lv_at hl 6 rfl) ?_
    obtain ⟨v2, M3, e1, h⟩ := ob2 h
    obtain ⟨fs4, hb5⟩ := (rX11_spreadOf e1)
    refine bz_callV1 (pc := 60) (As := [.int x1, .int x2, .int x8]) (rest := [.int x7]) X hM hl.1 k_RX11_285 (ctX11_spreadOf l e1) rfl hb5 rfl rfl ⟨(Nat.le_of_ble_eq_true rfl), (Nat.le_of_ble_eq_true rfl)⟩ (Nat.le_of_ble_eq_true rfl) ⟨(Nat.le_of_ble_eq_true rfl), (Nat.le_of_ble_eq_true rfl)⟩ dX11_tried_60 (fun H locs hM => ?_)
    refine lv_iload (pc := 63) hx hb dX11_tried_63 (lv_at hl 4 rfl) ?_
    refine lv_icmp_lt (pc := 65) (tgt := 72) hx hb dX11_tried_65 (by decide) (fun hc => ?_) (fun hc => ?_)
    · have h := if_t hc h
      refine lv_iconst (pc := 72) (v := (0 : Int32)) hx hb dX11_tried_72 (by decide) ?_
      refine lv_iadd (pc := 73) hx hb dX11_tried_73 ?_
      refine lv_istore (pc := 74) (lv' := [(7, .int (x7 + (0 : Int32))), (0, .ref (pB P + x0)), (1, .int x1), (2, .int x2), (4, .int x4), (6, .int x6), (8, .int x8)]) hx hb dX11_tried_74 hl (by decide) rfl (fun ls hl => ?_)
      refine lv_iinc (pc := 76) (v := (x8 + (1 : Int32))) (lv' := [(8, .int (x8 + (1 : Int32))), (7, .int (x7 + (0 : Int32))), (0, .ref (pB P + x0)), (1, .int x1), (2, .int x2), (4, .int x4), (6, .int x6)]) hx hb dX11_tried_76 hl (k := 6) rfl rfl (by decide) rfl (fun ls hl => ?_)
      refine lv_goto (pc := 79) (tgt := 46) hx hb dX11_tried_79 (by decide) ?_
      exact hK46 _ _ _ _ _ _ _ _ h H locs ls hM (lv_sub hl [2, 3, 4, 5, 6, 1, 0] rfl)
    · have h := if_f hc h
      refine lv_iconst (pc := 68) (v := (1 : Int32)) hx hb dX11_tried_68 (by decide) ?_
      refine lv_goto (pc := 69) (tgt := 73) hx hb dX11_tried_69 (by decide) ?_
      refine lv_iadd (pc := 73) hx hb dX11_tried_73 ?_
      refine lv_istore (pc := 74) (lv' := [(7, .int (x7 + (1 : Int32))), (0, .ref (pB P + x0)), (1, .int x1), (2, .int x2), (4, .int x4), (6, .int x6), (8, .int x8)]) hx hb dX11_tried_74 hl (by decide) rfl (fun ls hl => ?_)
      refine lv_iinc (pc := 76) (v := (x8 + (1 : Int32))) (lv' := [(8, .int (x8 + (1 : Int32))), (7, .int (x7 + (1 : Int32))), (0, .ref (pB P + x0)), (1, .int x1), (2, .int x2), (4, .int x4), (6, .int x6)]) hx hb dX11_tried_76 hl (k := 6) rfl rfl (by decide) rfl (fun ls hl => ?_)
      refine lv_goto (pc := 79) (tgt := 46) hx hb dX11_tried_79 (by decide) ?_
      exact hK46 _ _ _ _ _ _ _ _ h H locs ls hM (lv_sub hl [2, 3, 4, 5, 6, 1, 0] rfl)
set_option maxHeartbeats 4000000 in
set_option maxRecDepth 100000 in
theorem wLX11_tried_46 {p : Program} {l : Launch} {e : Env} {s : State} {m : MethodId} {args : Array Value} {below : List Frame} {meth : Method} {c : Code} {P : PT} {N : Nat}  {r9 : Int32} {M9 : Mm} (hX : Cy p s m args c meth cX11_tried 9 RX11 "tried" (some .int) P)   : ∀ (n : Nat) (M : Mm) (x0 : Nat) (x1 : Int32) (x2 : Int32) (x4 : Int32) (x6 : Int32) (x7 : Int32) (x8 : Int32) , LX11_tried_46 N n M x0 x1 x2 x4 x6 x7 x8 = some (r9, M9) → Wq p l e s m args below meth c 4 0 (some (.int r9)) M9 9 P 0 46 [(0, .ref (pB P + x0)), (1, .int x1), (2, .int x2), (4, .int x4), (6, .int x6), (7, .int x7), (8, .int x8)] [] M := by
  intro n
  induction n with
  | zero => intro M x0 x1 x2 x4 x6 x7 x8 h; cases h
  | succ n ih => intro M x0 x1 x2 x4 x6 x7 x8 h; exact wBX11_tried_46 hX ih M x0 x1 x2 x4 x6 x7 x8 h
set_option maxHeartbeats 4000000 in
set_option maxRecDepth 100000 in
theorem wjX11_tried_20 {p : Program} {l : Launch} {e : Env} {s : State} {m : MethodId} {args : Array Value} {below : List Frame} {meth : Method} {c : Code} {P : PT} {N : Nat}  {r9 : Int32} {M9 : Mm} (hX : Cy p s m args c meth cX11_tried 9 RX11 "tried" (some .int) P)   (M : Mm) (x0 : Nat)  (h : jX11_tried_20 N M x0 = some (r9, M9)) : Wq p l e s m args below meth c 4 0 (some (.int r9)) M9 9 P 0 20 [(0, .ref (pB P + x0))] [] M := by
  unfold jX11_tried_20 at h
  have hX0 := hX
  obtain ⟨X, hr, hlk, hnm⟩ := hX0
  have hx := X.1.1
  have hb := X.1.2.1
  intro H locs ls hM hl
  refine lv_aload_n (pc := 20) hx hb dX11_tried_20 rfl (lv_at hl 0 rfl) ?_
  refine lv_iconst (pc := 21) (v := (1 : Int32)) hx hb dX11_tried_21 (by decide) ?_
  obtain ⟨v2, M3, e1, h⟩ := ob2 h
  obtain ⟨fs4, hb5⟩ := (rX11_error e1)
  refine bz_callV1 (pc := 22) (As := [.int (1 : Int32)]) (rest := []) X hM hl.1 k_RX11_73 (ctX11_error l e1) rfl hb5 rfl rfl ⟨(Nat.le_of_ble_eq_true rfl), (Nat.le_of_ble_eq_true rfl)⟩ (Nat.le_of_ble_eq_true rfl) ⟨(Nat.le_of_ble_eq_true rfl), (Nat.le_of_ble_eq_true rfl)⟩ dX11_tried_22 (fun H locs hM => ?_)
  obtain ⟨rfl, rfl⟩ := so2 h
  exact bz_iret (pc := 25) X hM hr hlk dX11_tried_25 (Nat.le_of_ble_eq_true rfl) (Nat.le_of_ble_eq_true rfl)
set_option maxHeartbeats 4000000 in
set_option maxRecDepth 100000 in
theorem wX11_tried {p : Program} {l : Launch} {e : Env} {s : State} {m : MethodId} {args : Array Value} {below : List Frame} {meth : Method} {c : Code} {P : PT} {N : Nat}  {r9 : Int32} {M9 : Mm} (hX : Cy p s m args c meth cX11_tried 9 RX11 "tried" (some .int) P)  (M : Mm) (a0 : Nat) (a1 : Int32) (a2 : Int32) (a3 : Int32) (a4 : Int32) (a5 : Int32) (h : fX11_tried N M a0 a1 a2 a3 a4 a5 = some (r9, M9)) : Wq p l e s m args below meth c 4 0 (some (.int r9)) M9 9 P 0 0 [(0, .ref (pB P + a0)), (1, .int a1), (2, .int a2), (3, .int a3), (4, .int a4), (5, .int a5)] [] M := by
  unfold fX11_tried at h
  obtain ⟨_, _, h⟩ := ob h
  have hX0 := hX
  obtain ⟨X, hr, hlk, hnm⟩ := hX0
  have hx := X.1.1
  have hb := X.1.2.1
  intro H locs ls hM hl
  refine lv_aload_n (pc := 0) hx hb dX11_tried_0 rfl (lv_at hl 0 rfl) ?_
  refine lv_iload_n (pc := 1) hx hb dX11_tried_1 rfl (lv_at hl 1 rfl) ?_
  refine lv_iload_n (pc := 2) hx hb dX11_tried_2 rfl (lv_at hl 2 rfl) ?_
  refine lv_iload_n (pc := 3) hx hb dX11_tried_3 rfl (lv_at hl 3 rfl) ?_
  refine lv_iload (pc := 4) hx hb dX11_tried_4 (lv_at hl 4 rfl) ?_
  obtain ⟨v2, e1, h⟩ := ob h
  obtain ⟨fs3, hb4⟩ := (rX11_areStars e1)
  refine bz_callV1 (pc := 6) (As := [.int a1, .int a2, .int a3, .int a4]) (rest := []) X hM hl.1 k_RX11_290 (ctX11_areStars l e1) rfl hb4 rfl rfl ⟨(Nat.le_of_ble_eq_true rfl), (Nat.le_of_ble_eq_true rfl)⟩ (Nat.le_of_ble_eq_true rfl) ⟨(Nat.le_of_ble_eq_true rfl), (Nat.le_of_ble_eq_true rfl)⟩ dX11_tried_6 (fun H locs hM => ?_)
  refine lv_if_eq (pc := 9) (tgt := 20) hx hb dX11_tried_9 (by decide) (fun hc => ?_) (fun hc => ?_)
  · have h := if_t hc h
    exact wjX11_tried_20 hX _ _ h H locs ls hM (lv_sub hl [0] rfl)
  · have h := if_f hc h
    refine lv_iload (pc := 12) hx hb dX11_tried_12 (lv_at hl 5 rfl) ?_
    obtain ⟨v6, e5, h⟩ := ob h
    refine bz_callS1 (pc := 14) (As := [.int a5]) (rest := []) X hM hl.1 k_RX11_282 (ctX11_isPeriod l e5) rfl rfl ⟨(Nat.le_of_ble_eq_true rfl), (Nat.le_of_ble_eq_true rfl)⟩ (Nat.le_of_ble_eq_true rfl) ⟨(Nat.le_of_ble_eq_true rfl), (Nat.le_of_ble_eq_true rfl)⟩ dX11_tried_14 (fun H locs hM => ?_)
    refine lv_if_ne (pc := 17) (tgt := 26) hx hb dX11_tried_17 (by decide) (fun hc => ?_) (fun hc => ?_)
    · have h := if_f hc h
      refine lv_aload_n (pc := 26) hx hb dX11_tried_26 rfl (lv_at hl 0 rfl) ?_
      obtain ⟨M8, e7, h⟩ := ob h
      obtain ⟨fs9, hb10⟩ := (rX11_readAll e7)
      refine bz_callV0 (pc := 27) (As := []) (rest := []) X hM hl.1 k_RX11_120 (ctX11_readAll l e7) rfl hb10 rfl rfl ⟨(Nat.le_of_ble_eq_true rfl), (Nat.le_of_ble_eq_true rfl)⟩ (Nat.le_of_ble_eq_true rfl) ⟨(Nat.le_of_ble_eq_true rfl), (Nat.le_of_ble_eq_true rfl)⟩ dX11_tried_27 (fun H locs hM => ?_)
      refine lv_aload_n (pc := 30) hx hb dX11_tried_30 rfl (lv_at hl 0 rfl) ?_
      refine lv_iload_n (pc := 31) hx hb dX11_tried_31 rfl (lv_at hl 1 rfl) ?_
      refine lv_iload_n (pc := 32) hx hb dX11_tried_32 rfl (lv_at hl 2 rfl) ?_
      refine lv_iload (pc := 33) hx hb dX11_tried_33 (lv_at hl 5 rfl) ?_
      obtain ⟨v12, M13, e11, h⟩ := ob2 h
      obtain ⟨fs14, hb15⟩ := (rX11_spreadOf e11)
      refine bz_callV1 (pc := 35) (As := [.int a1, .int a2, .int a5]) (rest := []) X hM hl.1 k_RX11_285 (ctX11_spreadOf l e11) rfl hb15 rfl rfl ⟨(Nat.le_of_ble_eq_true rfl), (Nat.le_of_ble_eq_true rfl)⟩ (Nat.le_of_ble_eq_true rfl) ⟨(Nat.le_of_ble_eq_true rfl), (Nat.le_of_ble_eq_true rfl)⟩ dX11_tried_35 (fun H locs hM => ?_)
      refine lv_istore (pc := 38) (lv' := [(6, .int v12), (0, .ref (pB P + a0)), (1, .int a1), (2, .int a2), (3, .int a3), (4, .int a4), (5, .int a5)]) hx hb dX11_tried_38 hl (by decide) rfl (fun ls hl => ?_)
      refine lv_iconst (pc := 40) (v := (0 : Int32)) hx hb dX11_tried_40 (by decide) ?_
      refine lv_istore (pc := 41) (lv' := [(7, .int (0 : Int32)), (6, .int v12), (0, .ref (pB P + a0)), (1, .int a1), (2, .int a2), (3, .int a3), (4, .int a4), (5, .int a5)]) hx hb dX11_tried_41 hl (by decide) rfl (fun ls hl => ?_)
      refine lv_iload_n (pc := 43) hx hb dX11_tried_43 rfl (lv_at hl 5 rfl) ?_
      refine lv_istore (pc := 44) (lv' := [(8, .int a3), (7, .int (0 : Int32)), (6, .int v12), (0, .ref (pB P + a0)), (1, .int a1), (2, .int a2), (3, .int a3), (4, .int a4), (5, .int a5)]) hx hb dX11_tried_44 hl (by decide) rfl (fun ls hl => ?_)
      exact wLX11_tried_46 hX _ _ _ _ _ _ _ _ _ h H locs ls hM (lv_sub hl [3, 4, 5, 7, 2, 1, 0] rfl)
    · have h := if_t hc h
      exact wjX11_tried_20 hX _ _ h H locs ls hM (lv_sub hl [0] rfl)
theorem rX11_tried {N : Nat} {M : Mm} {a0 : Nat} {a1 : Int32} {a2 : Int32} {a3 : Int32} {a4 : Int32} {a5 : Int32} {r9 : Int32 × Mm} (h : fX11_tried N M a0 a1 a2 a3 a4 a5 = some r9) : ∃ fs, M[a0]? = some (.inr (11, fs)) := by
  unfold fX11_tried at h
  obtain ⟨_, e1, _⟩ := ob h
  exact gC_spec e1
theorem ctX11_tried (l : Launch) {P : PT} {N : Nat} {M : Mm} {a0 : Nat} {a1 : Int32} {a2 : Int32} {a3 : Int32} {a4 : Int32} {a5 : Int32} {r9 : Int32} {M9 : Mm} (h : fX11_tried N M a0 a1 a2 a3 a4 a5 = some (r9, M9)) : Ct l yX11_tried cX11_tried 9 (some .int) 4 0 P [.ref (pB P + a0), .int a1, .int a2, .int a3, .int a4, .int a5] M (some (.int r9)) M9 :=
  Ct.mk (by decide +kernel) (Nat.le_of_ble_eq_true rfl) (fun p e s m args below meth c hX => wX11_tried hX M a0 a1 a2 a3 a4 a5 h)
set_option maxHeartbeats 4000000 in
set_option maxRecDepth 100000 in
theorem wjX10_weight_17 {p : Program} {l : Launch} {e : Env} {s : State} {m : MethodId} {args : Array Value} {below : List Frame} {meth : Method} {c : Code} {P : PT}  {r9 : Int32} {M9 : Mm} (hX : Cy p s m args c meth cX10_weight 3 RX10 "weight" (some .int) P)   (M : Mm) (x0 : Nat)  (h : jX10_weight_17 M x0 = some (r9, M9)) : Wq p l e s m args below meth c 3 0 (some (.int r9)) M9 3 P 0 17 [(0, .ref (pB P + x0))] [] M := by
  unfold jX10_weight_17 at h
  have hX0 := hX
  obtain ⟨X, hr, hlk, hnm⟩ := hX0
  have hx := X.1.1
  have hb := X.1.2.1
  intro H locs ls hM hl
  refine lv_aload_n (pc := 17) hx hb dX10_weight_17 rfl (lv_at hl 0 rfl) ?_
  refine lv_iconst (pc := 18) (v := (1 : Int32)) hx hb dX10_weight_18 (by decide) ?_
  obtain ⟨v2, M3, e1, h⟩ := ob2 h
  obtain ⟨fs4, hb5⟩ := (rX10_error e1)
  refine bz_callV1 (pc := 19) (As := [.int (1 : Int32)]) (rest := []) X hM hl.1 k_RX10_78 (ctX10_error l e1) rfl hb5 rfl rfl ⟨(Nat.le_of_ble_eq_true rfl), (Nat.le_of_ble_eq_true rfl)⟩ (Nat.le_of_ble_eq_true rfl) ⟨(Nat.le_of_ble_eq_true rfl), (Nat.le_of_ble_eq_true rfl)⟩ dX10_weight_19 (fun H locs hM => ?_)
  obtain ⟨rfl, rfl⟩ := so2 h
  exact bz_iret (pc := 22) X hM hr hlk dX10_weight_22 (Nat.le_of_ble_eq_true rfl) (Nat.le_of_ble_eq_true rfl)
set_option maxHeartbeats 4000000 in
set_option maxRecDepth 100000 in
theorem wX10_weight {p : Program} {l : Launch} {e : Env} {s : State} {m : MethodId} {args : Array Value} {below : List Frame} {meth : Method} {c : Code} {P : PT}  {r9 : Int32} {M9 : Mm} (hX : Cy p s m args c meth cX10_weight 3 RX10 "weight" (some .int) P)  (M : Mm) (a0 : Nat) (a1 : Int32) (a2 : Int32) (h : fX10_weight M a0 a1 a2 = some (r9, M9)) : Wq p l e s m args below meth c 3 0 (some (.int r9)) M9 3 P 0 0 [(0, .ref (pB P + a0)), (1, .int a1), (2, .int a2)] [] M := by
  unfold fX10_weight at h
  obtain ⟨_, _, h⟩ := ob h
  have hX0 := hX
  obtain ⟨X, hr, hlk, hnm⟩ := hX0
  have hx := X.1.1
  have hb := X.1.2.1
  intro H locs ls hM hl
  refine lv_iload_n (pc := 0) hx hb dX10_weight_0 rfl (lv_at hl 1 rfl) ?_
  obtain ⟨v2, e1, h⟩ := ob h
  refine bz_callS1 (pc := 1) (As := [.int a1]) (rest := []) X hM hl.1 k_RX10_204 (ctX10_isLaw l e1) rfl rfl ⟨(Nat.le_of_ble_eq_true rfl), (Nat.le_of_ble_eq_true rfl)⟩ (Nat.le_of_ble_eq_true rfl) ⟨(Nat.le_of_ble_eq_true rfl), (Nat.le_of_ble_eq_true rfl)⟩ dX10_weight_1 (fun H locs hM => ?_)
  refine lv_if_eq (pc := 4) (tgt := 17) hx hb dX10_weight_4 (by decide) (fun hc => ?_) (fun hc => ?_)
  · have h := if_t hc h
    exact wjX10_weight_17 hX _ _ h H locs ls hM (lv_sub hl [0] rfl)
  · have h := if_f hc h
    refine lv_iload_n (pc := 7) hx hb dX10_weight_7 rfl (lv_at hl 2 rfl) ?_
    refine lv_iconst (pc := 8) (v := (0 : Int32)) hx hb dX10_weight_8 (by decide) ?_
    refine lv_bipush (pc := 9) (v := (99 : Int32)) hx hb dX10_weight_9 (by decide) ?_
    obtain ⟨v4, e3, h⟩ := ob h
    refine bz_callS1 (pc := 11) (As := [.int a2, .int (0 : Int32), .int (99 : Int32)]) (rest := []) X hM hl.1 k_RX10_74 (ctX10_within l e3) rfl rfl ⟨(Nat.le_of_ble_eq_true rfl), (Nat.le_of_ble_eq_true rfl)⟩ (Nat.le_of_ble_eq_true rfl) ⟨(Nat.le_of_ble_eq_true rfl), (Nat.le_of_ble_eq_true rfl)⟩ dX10_weight_11 (fun H locs hM => ?_)
    refine lv_if_ne (pc := 14) (tgt := 23) hx hb dX10_weight_14 (by decide) (fun hc => ?_) (fun hc => ?_)
    · have h := if_f hc h
      refine lv_aload_n (pc := 23) hx hb dX10_weight_23 rfl (lv_at hl 0 rfl) ?_
      obtain ⟨q5, e6, h⟩ := ob h
      refine bz_getQ (pc := 24) X hM fl_RX10_10 e6 dX10_weight_24 ?_
      obtain ⟨q7, e8, h⟩ := ob h
      refine bz_getQ (pc := 27) X hM fl_RX10_318 e8 dX10_weight_27 ?_
      refine lv_iload_n (pc := 30) hx hb dX10_weight_30 rfl (lv_at hl 1 rfl) ?_
      refine lv_iload_n (pc := 31) hx hb dX10_weight_31 rfl (lv_at hl 2 rfl) ?_
      obtain ⟨v10, M11, e9, h⟩ := ob2 h
      obtain ⟨fs12, hb13⟩ := (rX3_exchange e9)
      refine bz_callV1 (pc := 32) (As := [.int a1, .int a2]) (rest := []) X hM hl.1 k_RX10_85 (ctX3_exchange l e9) rfl hb13 rfl rfl ⟨(Nat.le_of_ble_eq_true rfl), (Nat.le_of_ble_eq_true rfl)⟩ (Nat.le_of_ble_eq_true rfl) ⟨(Nat.le_of_ble_eq_true rfl), (Nat.le_of_ble_eq_true rfl)⟩ dX10_weight_32 (fun H locs hM => ?_)
      obtain ⟨rfl, rfl⟩ := so2 h
      exact bz_iret (pc := 35) X hM hr hlk dX10_weight_35 (Nat.le_of_ble_eq_true rfl) (Nat.le_of_ble_eq_true rfl)
    · have h := if_t hc h
      exact wjX10_weight_17 hX _ _ h H locs ls hM (lv_sub hl [0] rfl)
theorem rX10_weight {M : Mm} {a0 : Nat} {a1 : Int32} {a2 : Int32} {r9 : Int32 × Mm} (h : fX10_weight M a0 a1 a2 = some r9) : ∃ fs, M[a0]? = some (.inr (10, fs)) := by
  unfold fX10_weight at h
  obtain ⟨_, e1, _⟩ := ob h
  exact gC_spec e1
theorem ctX10_weight (l : Launch) {P : PT} {M : Mm} {a0 : Nat} {a1 : Int32} {a2 : Int32} {r9 : Int32} {M9 : Mm} (h : fX10_weight M a0 a1 a2 = some (r9, M9)) : Ct l yX10_weight cX10_weight 3 (some .int) 3 0 P [.ref (pB P + a0), .int a1, .int a2] M (some (.int r9)) M9 :=
  Ct.mk (by decide +kernel) (Nat.le_of_ble_eq_true rfl) (fun p e s m args below meth c hX => wX10_weight hX M a0 a1 a2 h)
