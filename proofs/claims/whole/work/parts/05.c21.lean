set_option maxHeartbeats 4000000 in
set_option maxRecDepth 100000 in
theorem wBX11_gone_59 {p : Program} {l : Launch} {e : Env} {s : State} {m : MethodId} {args : Array Value} {below : List Frame} {meth : Method} {c : Code} {P : PT} {N : Nat} {K48 : Mm → Nat → Int32 → Int32 → Int32 → Int32 → Int32 → Option (Int32 × Mm)} {K59 : Mm → Nat → Int32 → Int32 → Int32 → Int32 → Int32 → Int32 → Option (Int32 × Mm)}  {r9 : Int32} {M9 : Mm} (hX : Cy p s m args c meth cX11_gone 7 RX11 "gone" (some .int) P)  (hK48 : ∀ (M : Mm) (x0 : Nat) (x1 : Int32) (x2 : Int32) (x3 : Int32) (x4 : Int32) (x5 : Int32), K48 M x0 x1 x2 x3 x4 x5 = some (r9, M9) → Wq p l e s m args below meth c 1 0 (some (.int r9)) M9 7 P 0 48 [(0, .ref (pB P + x0)), (1, .int x1), (2, .int x2), (3, .int x3), (4, .int x4), (5, .int x5)] [] M) (hK59 : ∀ (M : Mm) (x0 : Nat) (x1 : Int32) (x2 : Int32) (x3 : Int32) (x4 : Int32) (x5 : Int32) (x6 : Int32), K59 M x0 x1 x2 x3 x4 x5 x6 = some (r9, M9) → Wq p l e s m args below meth c 1 0 (some (.int r9)) M9 7 P 0 59 [(0, .ref (pB P + x0)), (1, .int x1), (2, .int x2), (3, .int x3), (4, .int x4), (5, .int x5), (6, .int x6)] [] M) (M : Mm) (x0 : Nat) (x1 : Int32) (x2 : Int32) (x3 : Int32) (x4 : Int32) (x5 : Int32) (x6 : Int32)  (h : BX11_gone_59 N K48 K59 M x0 x1 x2 x3 x4 x5 x6 = some (r9, M9)) : Wq p l e s m args below meth c 1 0 (some (.int r9)) M9 7 P 0 59 [(0, .ref (pB P + x0)), (1, .int x1), (2, .int x2), (3, .int x3), (4, .int x4), (5, .int x5), (6, .int x6)] [] M := by
  unfold BX11_gone_59 at h
  have hX0 := hX
  obtain ⟨X, hr, hlk, hnm⟩ := hX0
  have hx := X.1.1
  have hb := X.1.2.1
  intro H locs ls hM hl
  refine lv_iload (pc := 59) hx hb dX11_gone_59 (lv_at hl 6 rfl) ?_
  refine lv_iload_n (pc := 61) hx hb dX11_gone_61 rfl (lv_at hl 3 rfl) ?_
  refine lv_icmp_ge (pc := 62) (tgt := 88) hx hb dX11_gone_62 (by decide) (fun hc => ?_) (fun hc => ?_)
  · have h := if_t hc h
    refine lv_iconst (pc := 88) (v := (2 : Int32)) hx hb dX11_gone_88 (by decide) ?_
    refine lv_iload (pc := 89) hx hb dX11_gone_89 (lv_at hl 4 rfl) ?_
    refine lv_imul (pc := 91) hx hb dX11_gone_91 ?_
    refine lv_iload_n (pc := 92) hx hb dX11_gone_92 rfl (lv_at hl 1 rfl) ?_
    refine lv_icmp_ge (pc := 93) (tgt := 99) hx hb dX11_gone_93 (by decide) (fun hc => ?_) (fun hc => ?_)
    · have h := if_t hc h
      refine lv_iinc (pc := 99) (v := (x5 + (1 : Int32))) (lv' := [(5, .int (x5 + (1 : Int32))), (0, .ref (pB P + x0)), (1, .int x1), (2, .int x2), (3, .int x3), (4, .int x4), (6, .int x6)]) hx hb dX11_gone_99 hl (k := 5) rfl rfl (by decide) rfl (fun ls hl => ?_)
      refine lv_goto (pc := 102) (tgt := 48) hx hb dX11_gone_102 (by decide) ?_
      exact hK48 _ _ _ _ _ _ _ h H locs ls hM (lv_sub hl [1, 2, 3, 4, 5, 0] rfl)
    · have h := if_f hc h
      refine lv_iload (pc := 96) hx hb dX11_gone_96 (lv_at hl 5 rfl) ?_
      obtain ⟨rfl, rfl⟩ := so2 h
      exact bz_iret (pc := 98) X hM hr hlk dX11_gone_98 (Nat.le_of_ble_eq_true rfl) (Nat.le_of_ble_eq_true rfl)
  · have h := if_f hc h
    refine lv_iload (pc := 65) hx hb dX11_gone_65 (lv_at hl 4 rfl) ?_
    refine lv_iload (pc := 67) hx hb dX11_gone_67 (lv_at hl 4 rfl) ?_
    refine lv_iload_n (pc := 69) hx hb dX11_gone_69 rfl (lv_at hl 2 rfl) ?_
    refine lv_imul (pc := 70) hx hb dX11_gone_70 ?_
    refine lv_sipush (pc := 71) (v := (999 : Int32)) hx hb dX11_gone_71 (by decide) ?_
    refine lv_iadd (pc := 74) hx hb dX11_gone_74 ?_
    refine lv_sipush (pc := 75) (v := (1000 : Int32)) hx hb dX11_gone_75 (by decide) ?_
    refine lv_idiv (pc := 78) hx hb dX11_gone_78 (by decide) ?_
    refine lv_isub (pc := 79) hx hb dX11_gone_79 ?_
    refine lv_istore (pc := 80) (lv' := [(4, .int (x4 - (((x4 * x2) + (999 : Int32)) / (1000 : Int32)))), (0, .ref (pB P + x0)), (1, .int x1), (2, .int x2), (3, .int x3), (5, .int x5), (6, .int x6)]) hx hb dX11_gone_80 hl (by decide) rfl (fun ls hl => ?_)
    refine lv_iinc (pc := 82) (v := (x6 + (1 : Int32))) (lv' := [(6, .int (x6 + (1 : Int32))), (4, .int (x4 - (((x4 * x2) + (999 : Int32)) / (1000 : Int32)))), (0, .ref (pB P + x0)), (1, .int x1), (2, .int x2), (3, .int x3), (5, .int x5)]) hx hb dX11_gone_82 hl (k := 6) rfl rfl (by decide) rfl (fun ls hl => ?_)
    refine lv_goto (pc := 85) (tgt := 59) hx hb dX11_gone_85 (by decide) ?_
    exact hK59 _ _ _ _ _ _ _ _ h H locs ls hM (lv_sub hl [2, 3, 4, 5, 1, 6, 0] rfl)
set_option maxHeartbeats 4000000 in
set_option maxRecDepth 100000 in
theorem wLX11_gone_59 {p : Program} {l : Launch} {e : Env} {s : State} {m : MethodId} {args : Array Value} {below : List Frame} {meth : Method} {c : Code} {P : PT} {N : Nat} {K48 : Mm → Nat → Int32 → Int32 → Int32 → Int32 → Int32 → Option (Int32 × Mm)}  {r9 : Int32} {M9 : Mm} (hX : Cy p s m args c meth cX11_gone 7 RX11 "gone" (some .int) P)  (hK48 : ∀ (M : Mm) (x0 : Nat) (x1 : Int32) (x2 : Int32) (x3 : Int32) (x4 : Int32) (x5 : Int32), K48 M x0 x1 x2 x3 x4 x5 = some (r9, M9) → Wq p l e s m args below meth c 1 0 (some (.int r9)) M9 7 P 0 48 [(0, .ref (pB P + x0)), (1, .int x1), (2, .int x2), (3, .int x3), (4, .int x4), (5, .int x5)] [] M) : ∀ (n : Nat) (M : Mm) (x0 : Nat) (x1 : Int32) (x2 : Int32) (x3 : Int32) (x4 : Int32) (x5 : Int32) (x6 : Int32) , LX11_gone_59 N K48 n M x0 x1 x2 x3 x4 x5 x6 = some (r9, M9) → Wq p l e s m args below meth c 1 0 (some (.int r9)) M9 7 P 0 59 [(0, .ref (pB P + x0)), (1, .int x1), (2, .int x2), (3, .int x3), (4, .int x4), (5, .int x5), (6, .int x6)] [] M := by
  intro n
  induction n with
  | zero => intro M x0 x1 x2 x3 x4 x5 x6 h; cases h
  | succ n ih => intro M x0 x1 x2 x3 x4 x5 x6 h; exact wBX11_gone_59 hX hK48 ih M x0 x1 x2 x3 x4 x5 x6 h
set_option maxHeartbeats 4000000 in
set_option maxRecDepth 100000 in
theorem wBX11_gone_48 {p : Program} {l : Launch} {e : Env} {s : State} {m : MethodId} {args : Array Value} {below : List Frame} {meth : Method} {c : Code} {P : PT} {N : Nat} {K48 : Mm → Nat → Int32 → Int32 → Int32 → Int32 → Int32 → Option (Int32 × Mm)}  {r9 : Int32} {M9 : Mm} (hX : Cy p s m args c meth cX11_gone 7 RX11 "gone" (some .int) P)  (hK48 : ∀ (M : Mm) (x0 : Nat) (x1 : Int32) (x2 : Int32) (x3 : Int32) (x4 : Int32) (x5 : Int32), K48 M x0 x1 x2 x3 x4 x5 = some (r9, M9) → Wq p l e s m args below meth c 1 0 (some (.int r9)) M9 7 P 0 48 [(0, .ref (pB P + x0)), (1, .int x1), (2, .int x2), (3, .int x3), (4, .int x4), (5, .int x5)] [] M) (M : Mm) (x0 : Nat) (x1 : Int32) (x2 : Int32) (x3 : Int32) (x4 : Int32) (x5 : Int32)  (h : BX11_gone_48 N K48 M x0 x1 x2 x3 x4 x5 = some (r9, M9)) : Wq p l e s m args below meth c 1 0 (some (.int r9)) M9 7 P 0 48 [(0, .ref (pB P + x0)), (1, .int x1), (2, .int x2), (3, .int x3), (4, .int x4), (5, .int x5)] [] M := by
  unfold BX11_gone_48 at h
  have hX0 := hX
  obtain ⟨X, hr, hlk, hnm⟩ := hX0
  have hx := X.1.1
  have hb := X.1.2.1
  intro H locs ls hM hl
  refine lv_iload (pc := 48) hx hb dX11_gone_48 (lv_at hl 5 rfl) ?_
  refine lv_sipush (pc := 50) (v := (1000 : Int32)) hx hb dX11_gone_50 (by decide) ?_
  refine lv_icmp_ge (pc := 53) (tgt := 105) hx hb dX11_gone_53 (by decide) (fun hc => ?_) (fun hc => ?_)
  · have h := if_t hc h
    refine lv_aload_n (pc := 105) hx hb dX11_gone_105 rfl (lv_at hl 0 rfl) ?_
    refine lv_iconst (pc := 106) (v := (2 : Int32)) hx hb dX11_gone_106 (by decide) ?_
    obtain ⟨v2, M3, e1, h⟩ := ob2 h
    obtain ⟨fs4, hb5⟩ := (rX11_error e1)
    refine bz_callV1 (pc := 107) (As := [.int (2 : Int32)]) (rest := []) X hM hl.1 k_RX11_73 (ctX11_error l e1) rfl hb5 rfl rfl ⟨(Nat.le_of_ble_eq_true rfl), (Nat.le_of_ble_eq_true rfl)⟩ (Nat.le_of_ble_eq_true rfl) ⟨(Nat.le_of_ble_eq_true rfl), (Nat.le_of_ble_eq_true rfl)⟩ dX11_gone_107 (fun H locs hM => ?_)
    obtain ⟨rfl, rfl⟩ := so2 h
    exact bz_iret (pc := 110) X hM hr hlk dX11_gone_110 (Nat.le_of_ble_eq_true rfl) (Nat.le_of_ble_eq_true rfl)
  · have h := if_f hc h
    refine lv_iconst (pc := 56) (v := (0 : Int32)) hx hb dX11_gone_56 (by decide) ?_
    refine lv_istore (pc := 57) (lv' := [(6, .int (0 : Int32)), (0, .ref (pB P + x0)), (1, .int x1), (2, .int x2), (3, .int x3), (4, .int x4), (5, .int x5)]) hx hb dX11_gone_57 hl (by decide) rfl (fun ls hl => ?_)
    exact wLX11_gone_59 hX hK48 _ _ _ _ _ _ _ _ _ h H locs ls hM (lv_sub hl [1, 2, 3, 4, 5, 6, 0] rfl)
set_option maxHeartbeats 4000000 in
set_option maxRecDepth 100000 in
theorem wLX11_gone_48 {p : Program} {l : Launch} {e : Env} {s : State} {m : MethodId} {args : Array Value} {below : List Frame} {meth : Method} {c : Code} {P : PT} {N : Nat}  {r9 : Int32} {M9 : Mm} (hX : Cy p s m args c meth cX11_gone 7 RX11 "gone" (some .int) P)   : ∀ (n : Nat) (M : Mm) (x0 : Nat) (x1 : Int32) (x2 : Int32) (x3 : Int32) (x4 : Int32) (x5 : Int32) , LX11_gone_48 N n M x0 x1 x2 x3 x4 x5 = some (r9, M9) → Wq p l e s m args below meth c 1 0 (some (.int r9)) M9 7 P 0 48 [(0, .ref (pB P + x0)), (1, .int x1), (2, .int x2), (3, .int x3), (4, .int x4), (5, .int x5)] [] M := by
  intro n
  induction n with
  | zero => intro M x0 x1 x2 x3 x4 x5 h; cases h
  | succ n ih => intro M x0 x1 x2 x3 x4 x5 h; exact wBX11_gone_48 hX ih M x0 x1 x2 x3 x4 x5 h
set_option maxHeartbeats 4000000 in
set_option maxRecDepth 100000 in
theorem wjX11_gone_36 {p : Program} {l : Launch} {e : Env} {s : State} {m : MethodId} {args : Array Value} {below : List Frame} {meth : Method} {c : Code} {P : PT} {N : Nat}  {r9 : Int32} {M9 : Mm} (hX : Cy p s m args c meth cX11_gone 7 RX11 "gone" (some .int) P)   (M : Mm) (x0 : Nat)  (h : jX11_gone_36 N M x0 = some (r9, M9)) : Wq p l e s m args below meth c 1 0 (some (.int r9)) M9 7 P 0 36 [(0, .ref (pB P + x0))] [] M := by
  unfold jX11_gone_36 at h
  have hX0 := hX
  obtain ⟨X, hr, hlk, hnm⟩ := hX0
  have hx := X.1.1
  have hb := X.1.2.1
  intro H locs ls hM hl
  refine lv_aload_n (pc := 36) hx hb dX11_gone_36 rfl (lv_at hl 0 rfl) ?_
  refine lv_iconst (pc := 37) (v := (1 : Int32)) hx hb dX11_gone_37 (by decide) ?_
  obtain ⟨v2, M3, e1, h⟩ := ob2 h
  obtain ⟨fs4, hb5⟩ := (rX11_error e1)
  refine bz_callV1 (pc := 38) (As := [.int (1 : Int32)]) (rest := []) X hM hl.1 k_RX11_73 (ctX11_error l e1) rfl hb5 rfl rfl ⟨(Nat.le_of_ble_eq_true rfl), (Nat.le_of_ble_eq_true rfl)⟩ (Nat.le_of_ble_eq_true rfl) ⟨(Nat.le_of_ble_eq_true rfl), (Nat.le_of_ble_eq_true rfl)⟩ dX11_gone_38 (fun H locs hM => ?_)
  obtain ⟨rfl, rfl⟩ := so2 h
  exact bz_iret (pc := 41) X hM hr hlk dX11_gone_41 (Nat.le_of_ble_eq_true rfl) (Nat.le_of_ble_eq_true rfl)
set_option maxHeartbeats 4000000 in
set_option maxRecDepth 100000 in
theorem wX11_gone {p : Program} {l : Launch} {e : Env} {s : State} {m : MethodId} {args : Array Value} {below : List Frame} {meth : Method} {c : Code} {P : PT} {N : Nat}  {r9 : Int32} {M9 : Mm} (hX : Cy p s m args c meth cX11_gone 7 RX11 "gone" (some .int) P)  (M : Mm) (a0 : Nat) (a1 : Int32) (a2 : Int32) (a3 : Int32) (h : fX11_gone N M a0 a1 a2 a3 = some (r9, M9)) : Wq p l e s m args below meth c 1 0 (some (.int r9)) M9 7 P 0 0 [(0, .ref (pB P + a0)), (1, .int a1), (2, .int a2), (3, .int a3)] [] M := by
  unfold fX11_gone at h
  obtain ⟨_, _, h⟩ := ob h
  have hX0 := hX
  obtain ⟨X, hr, hlk, hnm⟩ := hX0
  have hx := X.1.1
  have hb := X.1.2.1
  intro H locs ls hM hl
  refine lv_iload_n (pc := 0) hx hb dX11_gone_0 rfl (lv_at hl 1 rfl) ?_
  refine lv_i2l (pc := 1) (v := ((a1).toInt64)) hx hb dX11_gone_1 rfl ?_
  refine lv_lconst (pc := 2) (v := (1 : Int64)) hx hb dX11_gone_2 (by decide) ?_
  refine lv_ldc2 (pc := 3) (v := (99999 : Int64)) hx hb X.1.2.2.2.1 (X.1.2.2.2.2 _ g_1644) dX11_gone_3 ?_
  obtain ⟨v2, e1, h⟩ := ob h
  refine bz_callS1 (pc := 6) (As := [.long ((a1).toInt64), .long (1 : Int64), .long (99999 : Int64)]) (rest := []) X hM hl.1 k_RX11_57 (ctX11_in l e1) rfl rfl ⟨(Nat.le_of_ble_eq_true rfl), (Nat.le_of_ble_eq_true rfl)⟩ (Nat.le_of_ble_eq_true rfl) ⟨(Nat.le_of_ble_eq_true rfl), (Nat.le_of_ble_eq_true rfl)⟩ dX11_gone_6 (fun H locs hM => ?_)
  refine lv_if_eq (pc := 9) (tgt := 36) hx hb dX11_gone_9 (by decide) (fun hc => ?_) (fun hc => ?_)
  · have h := if_t hc h
    exact wjX11_gone_36 hX _ _ h H locs ls hM (lv_sub hl [0] rfl)
  · have h := if_f hc h
    refine lv_iload_n (pc := 12) hx hb dX11_gone_12 rfl (lv_at hl 2 rfl) ?_
    refine lv_i2l (pc := 13) (v := ((a2).toInt64)) hx hb dX11_gone_13 rfl ?_
    refine lv_lconst (pc := 14) (v := (1 : Int64)) hx hb dX11_gone_14 (by decide) ?_
    refine lv_ldc2 (pc := 15) (v := (999 : Int64)) hx hb X.1.2.2.2.1 (X.1.2.2.2.2 _ g_1276) dX11_gone_15 ?_
    obtain ⟨v4, e3, h⟩ := ob h
    refine bz_callS1 (pc := 18) (As := [.long ((a2).toInt64), .long (1 : Int64), .long (999 : Int64)]) (rest := []) X hM hl.1 k_RX11_57 (ctX11_in l e3) rfl rfl ⟨(Nat.le_of_ble_eq_true rfl), (Nat.le_of_ble_eq_true rfl)⟩ (Nat.le_of_ble_eq_true rfl) ⟨(Nat.le_of_ble_eq_true rfl), (Nat.le_of_ble_eq_true rfl)⟩ dX11_gone_18 (fun H locs hM => ?_)
    refine lv_if_eq (pc := 21) (tgt := 36) hx hb dX11_gone_21 (by decide) (fun hc => ?_) (fun hc => ?_)
    · have h := if_t hc h
      exact wjX11_gone_36 hX _ _ h H locs ls hM (lv_sub hl [0] rfl)
    · have h := if_f hc h
      refine lv_iload_n (pc := 24) hx hb dX11_gone_24 rfl (lv_at hl 3 rfl) ?_
      refine lv_i2l (pc := 25) (v := ((a3).toInt64)) hx hb dX11_gone_25 rfl ?_
      refine lv_lconst (pc := 26) (v := (1 : Int64)) hx hb dX11_gone_26 (by decide) ?_
      refine lv_ldc2 (pc := 27) (v := (9 : Int64)) hx hb X.1.2.2.2.1 (X.1.2.2.2.2 _ g_1627) dX11_gone_27 ?_
      obtain ⟨v6, e5, h⟩ := ob h
      refine bz_callS1 (pc := 30) (As := [.long ((a3).toInt64), .long (1 : Int64), .long (9 : Int64)]) (rest := []) X hM hl.1 k_RX11_57 (ctX11_in l e5) rfl rfl ⟨(Nat.le_of_ble_eq_true rfl), (Nat.le_of_ble_eq_true rfl)⟩ (Nat.le_of_ble_eq_true rfl) ⟨(Nat.le_of_ble_eq_true rfl), (Nat.le_of_ble_eq_true rfl)⟩ dX11_gone_30 (fun H locs hM => ?_)
      refine lv_if_ne (pc := 33) (tgt := 42) hx hb dX11_gone_33 (by decide) (fun hc => ?_) (fun hc => ?_)
      · have h := if_f hc h
        refine lv_iload_n (pc := 42) hx hb dX11_gone_42 rfl (lv_at hl 1 rfl) ?_
        refine lv_istore (pc := 43) (lv' := [(4, .int a1), (0, .ref (pB P + a0)), (1, .int a1), (2, .int a2), (3, .int a3)]) hx hb dX11_gone_43 hl (by decide) rfl (fun ls hl => ?_)
        refine lv_iconst (pc := 45) (v := (1 : Int32)) hx hb dX11_gone_45 (by decide) ?_
        refine lv_istore (pc := 46) (lv' := [(5, .int (1 : Int32)), (4, .int a1), (0, .ref (pB P + a0)), (1, .int a1), (2, .int a2), (3, .int a3)]) hx hb dX11_gone_46 hl (by decide) rfl (fun ls hl => ?_)
        exact wLX11_gone_48 hX _ _ _ _ _ _ _ _ h H locs ls hM (lv_sub hl [2, 3, 4, 5, 1, 0] rfl)
      · have h := if_t hc h
        exact wjX11_gone_36 hX _ _ h H locs ls hM (lv_sub hl [0] rfl)
theorem rX11_gone {N : Nat} {M : Mm} {a0 : Nat} {a1 : Int32} {a2 : Int32} {a3 : Int32} {r9 : Int32 × Mm} (h : fX11_gone N M a0 a1 a2 a3 = some r9) : ∃ fs, M[a0]? = some (.inr (11, fs)) := by
  unfold fX11_gone at h
  obtain ⟨_, e1, _⟩ := ob h
  exact gC_spec e1
theorem ctX11_gone (l : Launch) {P : PT} {N : Nat} {M : Mm} {a0 : Nat} {a1 : Int32} {a2 : Int32} {a3 : Int32} {r9 : Int32} {M9 : Mm} (h : fX11_gone N M a0 a1 a2 a3 = some (r9, M9)) : Ct l yX11_gone cX11_gone 7 (some .int) 1 0 P [.ref (pB P + a0), .int a1, .int a2, .int a3] M (some (.int r9)) M9 :=
  Ct.mk (by decide +kernel) (Nat.le_of_ble_eq_true rfl) (fun p e s m args below meth c hX => wX11_gone hX M a0 a1 a2 a3 h)
set_option maxHeartbeats 4000000 in
set_option maxRecDepth 100000 in
theorem wX10_seed {p : Program} {l : Launch} {e : Env} {s : State} {m : MethodId} {args : Array Value} {below : List Frame} {meth : Method} {c : Code} {P : PT}  {r9 : Int32} {M9 : Mm} (hX : Cy p s m args c meth cX10_seed 3 RX10 "seed" (some .int) P)  (M : Mm) (a0 : Nat) (a1 : Int32) (h : fX10_seed M a0 a1 = some (r9, M9)) : Wq p l e s m args below meth c 0 0 (some (.int r9)) M9 3 P 0 0 [(0, .ref (pB P + a0)), (1, .int a1)] [] M := by
  unfold fX10_seed at h
  obtain ⟨_, _, h⟩ := ob h
  have hX0 := hX
  obtain ⟨X, hr, hlk, hnm⟩ := hX0
  have hx := X.1.1
  have hb := X.1.2.1
  intro H locs ls hM hl
  refine lv_aload_n (pc := 0) hx hb dX10_seed_0 rfl (lv_at hl 0 rfl) ?_
  obtain ⟨q1, e2, h⟩ := ob h
  refine bz_getQ (pc := 1) X hM fl_RX10_10 e2 dX10_seed_1 ?_
  obtain ⟨v3, e4, h⟩ := ob h
  refine bz_getI (pc := 4) X hM fl_RX10_356 e4 dX10_seed_4 ?_
  refine lv_istore_n (pc := 7) (lv' := [(2, .int v3), (0, .ref (pB P + a0)), (1, .int a1)]) hx hb dX10_seed_7 rfl hl (by decide) rfl (fun ls hl => ?_)
  refine lv_aload_n (pc := 8) hx hb dX10_seed_8 rfl (lv_at hl 1 rfl) ?_
  obtain ⟨q5, e6, h⟩ := ob h
  refine bz_getQ (pc := 9) X hM fl_RX10_10 e6 dX10_seed_9 ?_
  refine lv_iload_n (pc := 12) hx hb dX10_seed_12 rfl (lv_at hl 2 rfl) ?_
  obtain ⟨M7, e8, h⟩ := ob h
  refine bz_putI (pc := 13) X hM fp_RX10_356 (Or.inl rfl) e8 dX10_seed_13 (fun H locs hM => ?_)
  refine lv_iload_n (pc := 16) hx hb dX10_seed_16 rfl (lv_at hl 0 rfl) ?_
  obtain ⟨rfl, rfl⟩ := so2 h
  exact bz_iret (pc := 17) X hM hr hlk dX10_seed_17 (Nat.le_of_ble_eq_true rfl) (Nat.le_of_ble_eq_true rfl)
theorem rX10_seed {M : Mm} {a0 : Nat} {a1 : Int32} {r9 : Int32 × Mm} (h : fX10_seed M a0 a1 = some r9) : ∃ fs, M[a0]? = some (.inr (10, fs)) := by
  unfold fX10_seed at h
  obtain ⟨_, e1, _⟩ := ob h
  exact gC_spec e1
theorem ctX10_seed (l : Launch) {P : PT} {M : Mm} {a0 : Nat} {a1 : Int32} {r9 : Int32} {M9 : Mm} (h : fX10_seed M a0 a1 = some (r9, M9)) : Ct l yX10_seed cX10_seed 3 (some .int) 0 0 P [.ref (pB P + a0), .int a1] M (some (.int r9)) M9 :=
  Ct.mk (by decide +kernel) (Nat.le_of_ble_eq_true rfl) (fun p e s m args below meth c hX => wX10_seed hX M a0 a1 h)
set_option maxHeartbeats 4000000 in
set_option maxRecDepth 100000 in
theorem wX11_seed {p : Program} {l : Launch} {e : Env} {s : State} {m : MethodId} {args : Array Value} {below : List Frame} {meth : Method} {c : Code} {P : PT}  {r9 : Int32} {M9 : Mm} (hX : Cy p s m args c meth cX11_seed 3 RX11 "seed" (some .int) P)  (M : Mm) (a0 : Nat) (a1 : Int32) (h : fX11_seed M a0 a1 = some (r9, M9)) : Wq p l e s m args below meth c 0 0 (some (.int r9)) M9 3 P 0 0 [(0, .ref (pB P + a0)), (1, .int a1)] [] M := by
  unfold fX11_seed at h
  obtain ⟨_, _, h⟩ := ob h
  have hX0 := hX
  obtain ⟨X, hr, hlk, hnm⟩ := hX0
  have hx := X.1.1
  have hb := X.1.2.1
  intro H locs ls hM hl
  refine lv_aload_n (pc := 0) hx hb dX11_seed_0 rfl (lv_at hl 0 rfl) ?_
  obtain ⟨q1, e2, h⟩ := ob h
  refine bz_getQ (pc := 1) X hM fl_RX11_9 e2 dX11_seed_1 ?_
  refine lv_bipush (pc := 4) (v := (8 : Int32)) hx hb dX11_seed_4 (by decide) ?_
  obtain ⟨v3, e4, h⟩ := ob h
  refine bz_iald (pc := 6) X hM e4 dX11_seed_6 ?_
  refine lv_istore_n (pc := 7) (lv' := [(2, .int v3), (0, .ref (pB P + a0)), (1, .int a1)]) hx hb dX11_seed_7 rfl hl (by decide) rfl (fun ls hl => ?_)
  refine lv_aload_n (pc := 8) hx hb dX11_seed_8 rfl (lv_at hl 1 rfl) ?_
  obtain ⟨q5, e6, h⟩ := ob h
  refine bz_getQ (pc := 9) X hM fl_RX11_9 e6 dX11_seed_9 ?_
  refine lv_bipush (pc := 12) (v := (8 : Int32)) hx hb dX11_seed_12 (by decide) ?_
  refine lv_iload_n (pc := 14) hx hb dX11_seed_14 rfl (lv_at hl 2 rfl) ?_
  obtain ⟨M7, e8, h⟩ := ob h
  refine bz_iast (pc := 15) X hM e8 dX11_seed_15 (fun H locs hM => ?_)
  refine lv_iload_n (pc := 16) hx hb dX11_seed_16 rfl (lv_at hl 0 rfl) ?_
  obtain ⟨rfl, rfl⟩ := so2 h
  exact bz_iret (pc := 17) X hM hr hlk dX11_seed_17 (Nat.le_of_ble_eq_true rfl) (Nat.le_of_ble_eq_true rfl)
theorem rX11_seed {M : Mm} {a0 : Nat} {a1 : Int32} {r9 : Int32 × Mm} (h : fX11_seed M a0 a1 = some r9) : ∃ fs, M[a0]? = some (.inr (11, fs)) := by
  unfold fX11_seed at h
  obtain ⟨_, e1, _⟩ := ob h
  exact gC_spec e1
theorem ctX11_seed (l : Launch) {P : PT} {M : Mm} {a0 : Nat} {a1 : Int32} {r9 : Int32} {M9 : Mm} (h : fX11_seed M a0 a1 = some (r9, M9)) : Ct l yX11_seed cX11_seed 3 (some .int) 0 0 P [.ref (pB P + a0), .int a1] M (some (.int r9)) M9 :=
  Ct.mk (by decide +kernel) (Nat.le_of_ble_eq_true rfl) (fun p e s m args below meth c hX => wX11_seed hX M a0 a1 h)
set_option maxHeartbeats 4000000 in
set_option maxRecDepth 100000 in
theorem wX6_draw {p : Program} {l : Launch} {e : Env} {s : State} {m : MethodId} {args : Array Value} {below : List Frame} {meth : Method} {c : Code} {P : PT}  {r9 : Int32} {M9 : Mm} (hX : Cy p s m args c meth cX6_draw 1 RX6 "draw" (some .int) P)  (M : Mm) (a0 : Nat) (h : fX6_draw M a0 = some (r9, M9)) : Wq p l e s m args below meth c 0 0 (some (.int r9)) M9 1 P 0 0 [(0, .ref (pB P + a0))] [] M := by
  unfold fX6_draw at h
  obtain ⟨_, _, h⟩ := ob h
  have hX0 := hX
  obtain ⟨X, hr, hlk, hnm⟩ := hX0
  have hx := X.1.1
  have hb := X.1.2.1
  intro H locs ls hM hl
  refine lv_aload_n (pc := 0) hx hb dX6_draw_0 rfl (lv_at hl 0 rfl) ?_
  refine lv_aload_n (pc := 1) hx hb dX6_draw_1 rfl (lv_at hl 0 rfl) ?_
  obtain ⟨v1, e2, h⟩ := ob h
  refine bz_getI (pc := 2) X hM fl_RX6_68 e2 dX6_draw_2 ?_
  refine lv_ldc (pc := 5) (v := (1103515245 : Int32)) hx hb X.1.2.2.2.1 (X.1.2.2.2.2 _ g_1079) dX6_draw_5 ?_
  refine lv_imul (pc := 7) hx hb dX6_draw_7 ?_
  refine lv_sipush (pc := 8) (v := (12345 : Int32)) hx hb dX6_draw_8 (by decide) ?_
  refine lv_iadd (pc := 11) hx hb dX6_draw_11 ?_
  obtain ⟨M3, e4, h⟩ := ob h
  refine bz_putI (pc := 12) X hM fp_RX6_68 (Or.inl rfl) e4 dX6_draw_12 (fun H locs hM => ?_)
  refine lv_aload_n (pc := 15) hx hb dX6_draw_15 rfl (lv_at hl 0 rfl) ?_
  obtain ⟨v5, e6, h⟩ := ob h
  refine bz_getI (pc := 16) X hM fl_RX6_68 e6 dX6_draw_16 ?_
  refine lv_bipush (pc := 19) (v := (8 : Int32)) hx hb dX6_draw_19 (by decide) ?_
  refine lv_iushr (pc := 21) (v := (((v5).toUInt32 >>> (((8 : Int32)).toUInt32 &&& Int32.toUInt32 31)).toInt32)) hx hb dX6_draw_21 rfl ?_
  obtain ⟨rfl, rfl⟩ := so2 h
  exact bz_iret (pc := 22) X hM hr hlk dX6_draw_22 (Nat.le_of_ble_eq_true rfl) (Nat.le_of_ble_eq_true rfl)
theorem rX6_draw {M : Mm} {a0 : Nat} {r9 : Int32 × Mm} (h : fX6_draw M a0 = some r9) : ∃ fs, M[a0]? = some (.inr (6, fs)) := by
  unfold fX6_draw at h
  obtain ⟨_, e1, _⟩ := ob h
  exact gC_spec e1
theorem ctX6_draw (l : Launch) {P : PT} {M : Mm} {a0 : Nat} {r9 : Int32} {M9 : Mm} (h : fX6_draw M a0 = some (r9, M9)) : Ct l yX6_draw cX6_draw 1 (some .int) 0 0 P [.ref (pB P + a0)] M (some (.int r9)) M9 :=
  Ct.mk (by decide +kernel) (Nat.le_of_ble_eq_true rfl) (fun p e s m args below meth c hX => wX6_draw hX M a0 h)
set_option maxHeartbeats 4000000 in
set_option maxRecDepth 100000 in
theorem wX6_drawTenth {p : Program} {l : Launch} {e : Env} {s : State} {m : MethodId} {args : Array Value} {below : List Frame} {meth : Method} {c : Code} {P : PT}  {r9 : Int32} {M9 : Mm} (hX : Cy p s m args c meth cX6_drawTenth 1 RX6 "drawTenth" (some .int) P)  (M : Mm) (a0 : Nat) (h : fX6_drawTenth M a0 = some (r9, M9)) : Wq p l e s m args below meth c 1 0 (some (.int r9)) M9 1 P 0 0 [(0, .ref (pB P + a0))] [] M := by
  unfold fX6_drawTenth at h
  obtain ⟨_, _, h⟩ := ob h
  have hX0 := hX
  obtain ⟨X, hr, hlk, hnm⟩ := hX0
  have hx := X.1.1
  have hb := X.1.2.1
  intro H locs ls hM hl
  refine lv_aload_n (pc := 0) hx hb dX6_drawTenth_0 rfl (lv_at hl 0 rfl) ?_
  obtain ⟨v2, M3, e1, h⟩ := ob2 h
  obtain ⟨fs4, hb5⟩ := (rX6_draw e1)
  refine bz_callV1 (pc := 1) (As := []) (rest := []) X hM hl.1 k_RX6_124 (ctX6_draw l e1) rfl hb5 rfl rfl ⟨(Nat.le_of_ble_eq_true rfl), (Nat.le_of_ble_eq_true rfl)⟩ (Nat.le_of_ble_eq_true rfl) ⟨(Nat.le_of_ble_eq_true rfl), (Nat.le_of_ble_eq_true rfl)⟩ dX6_drawTenth_1 (fun H locs hM => ?_)
  refine lv_sipush (pc := 4) (v := (2400 : Int32)) hx hb dX6_drawTenth_4 (by decide) ?_
  refine bz_irem (pc := 7) hx hb dX6_drawTenth_7 (by decide) ?_
  obtain ⟨rfl, rfl⟩ := so2 h
  exact bz_iret (pc := 8) X hM hr hlk dX6_drawTenth_8 (Nat.le_of_ble_eq_true rfl) (Nat.le_of_ble_eq_true rfl)
theorem rX6_drawTenth {M : Mm} {a0 : Nat} {r9 : Int32 × Mm} (h : fX6_drawTenth M a0 = some r9) : ∃ fs, M[a0]? = some (.inr (6, fs)) := by
  unfold fX6_drawTenth at h
  obtain ⟨_, e1, _⟩ := ob h
  exact gC_spec e1
theorem ctX6_drawTenth (l : Launch) {P : PT} {M : Mm} {a0 : Nat} {r9 : Int32} {M9 : Mm} (h : fX6_drawTenth M a0 = some (r9, M9)) : Ct l yX6_drawTenth cX6_drawTenth 1 (some .int) 1 0 P [.ref (pB P + a0)] M (some (.int r9)) M9 :=
  Ct.mk (by decide +kernel) (Nat.le_of_ble_eq_true rfl) (fun p e s m args below meth c hX => wX6_drawTenth hX M a0 h)
set_option maxHeartbeats 4000000 in
set_option maxRecDepth 100000 in
theorem wX6_drawHeight {p : Program} {l : Launch} {e : Env} {s : State} {m : MethodId} {args : Array Value} {below : List Frame} {meth : Method} {c : Code} {P : PT}  {r9 : Int32} {M9 : Mm} (hX : Cy p s m args c meth cX6_drawHeight 1 RX6 "drawHeight" (some .int) P)  (M : Mm) (a0 : Nat) (h : fX6_drawHeight M a0 = some (r9, M9)) : Wq p l e s m args below meth c 1 0 (some (.int r9)) M9 1 P 0 0 [(0, .ref (pB P + a0))] [] M := by
  unfold fX6_drawHeight at h
  obtain ⟨_, _, h⟩ := ob h
  have hX0 := hX
  obtain ⟨X, hr, hlk, hnm⟩ := hX0
  have hx := X.1.1
  have hb := X.1.2.1
  intro H locs ls hM hl
  refine lv_aload_n (pc := 0) hx hb dX6_drawHeight_0 rfl (lv_at hl 0 rfl) ?_
  obtain ⟨v2, M3, e1, h⟩ := ob2 h
  obtain ⟨fs4, hb5⟩ := (rX6_draw e1)
  refine bz_callV1 (pc := 1) (As := []) (rest := []) X hM hl.1 k_RX6_124 (ctX6_draw l e1) rfl hb5 rfl rfl ⟨(Nat.le_of_ble_eq_true rfl), (Nat.le_of_ble_eq_true rfl)⟩ (Nat.le_of_ble_eq_true rfl) ⟨(Nat.le_of_ble_eq_true rfl), (Nat.le_of_ble_eq_true rfl)⟩ dX6_drawHeight_1 (fun H locs hM => ?_)
  refine lv_sipush (pc := 4) (v := (999 : Int32)) hx hb dX6_drawHeight_4 (by decide) ?_
  refine bz_irem (pc := 7) hx hb dX6_drawHeight_7 (by decide) ?_
  refine lv_iconst (pc := 8) (v := (1 : Int32)) hx hb dX6_drawHeight_8 (by decide) ?_
  refine lv_iadd (pc := 9) hx hb dX6_drawHeight_9 ?_
  obtain ⟨rfl, rfl⟩ := so2 h
  exact bz_iret (pc := 10) X hM hr hlk dX6_drawHeight_10 (Nat.le_of_ble_eq_true rfl) (Nat.le_of_ble_eq_true rfl)
theorem rX6_drawHeight {M : Mm} {a0 : Nat} {r9 : Int32 × Mm} (h : fX6_drawHeight M a0 = some r9) : ∃ fs, M[a0]? = some (.inr (6, fs)) := by
  unfold fX6_drawHeight at h
  obtain ⟨_, e1, _⟩ := ob h
  exact gC_spec e1
theorem ctX6_drawHeight (l : Launch) {P : PT} {M : Mm} {a0 : Nat} {r9 : Int32} {M9 : Mm} (h : fX6_drawHeight M a0 = some (r9, M9)) : Ct l yX6_drawHeight cX6_drawHeight 1 (some .int) 1 0 P [.ref (pB P + a0)] M (some (.int r9)) M9 :=
  Ct.mk (by decide +kernel) (Nat.le_of_ble_eq_true rfl) (fun p e s m args below meth c hX => wX6_drawHeight hX M a0 h)
set_option maxHeartbeats 4000000 in
set_option maxRecDepth 100000 in
theorem wBX10_made_46 {p : Program} {l : Launch} {e : Env} {s : State} {m : MethodId} {args : Array Value} {below : List Frame} {meth : Method} {c : Code} {P : PT} {N : Nat} {K46 : Mm → Nat → Int32 → Int32 → Int32 → Option (Int32 × Mm)}  {r9 : Int32} {M9 : Mm} (hX : Cy p s m args c meth cX10_made 5 RX10 "made" (some .int) P)  (hK46 : ∀ (M : Mm) (x0 : Nat) (x1 : Int32) (x2 : Int32) (x3 : Int32), K46 M x0 x1 x2 x3 = some (r9, M9) → Wq p l e s m args below meth c 3 0 (some (.int r9)) M9 5 P 0 46 [(0, .ref (pB P + x0)), (1, .int x1), (2, .int x2), (3, .int x3)] [] M) (M : Mm) (x0 : Nat) (x1 : Int32) (x2 : Int32) (x3 : Int32)  (h : BX10_made_46 N K46 M x0 x1 x2 x3 = some (r9, M9)) : Wq p l e s m args below meth c 3 0 (some (.int r9)) M9 5 P 0 46 [(0, .ref (pB P + x0)), (1, .int x1), (2, .int x2), (3, .int x3)] [] M := by
  unfold BX10_made_46 at h
  have hX0 := hX
  obtain ⟨X, hr, hlk, hnm⟩ := hX0
  have hx := X.1.1
  have hb := X.1.2.1
  intro H locs ls hM hl
  refine lv_iload_n (pc := 46) hx hb dX10_made_46 rfl (lv_at hl 3 rfl) ?_
  refine lv_iload_n (pc := 47) hx hb dX10_made_47 rfl (lv_at hl 2 rfl) ?_
  refine lv_icmp_ge (pc := 48) (tgt := 84) hx hb dX10_made_48 (by decide) (fun hc => ?_) (fun hc => ?_)
  · have h := if_t hc h
    refine lv_aload_n (pc := 84) hx hb dX10_made_84 rfl (lv_at hl 0 rfl) ?_
    obtain ⟨q1, e2, h⟩ := ob h
    refine bz_getQ (pc := 85) X hM fl_RX10_10 e2 dX10_made_85 ?_
    obtain ⟨v4, e3, h⟩ := ob h
    obtain ⟨fs5, hb6⟩ := (rX6_rings e3)
    refine bz_callV1 (pc := 88) (As := []) (rest := []) X hM hl.1 k_RX10_112 (ctX6_rings l e3) rfl hb6 rfl rfl ⟨(Nat.le_of_ble_eq_true rfl), (Nat.le_of_ble_eq_true rfl)⟩ (Nat.le_of_ble_eq_true rfl) ⟨(Nat.le_of_ble_eq_true rfl), (Nat.le_of_ble_eq_true rfl)⟩ dX10_made_88 (fun H locs hM => ?_)
    obtain ⟨rfl, rfl⟩ := so2 h
    exact bz_iret (pc := 91) X hM hr hlk dX10_made_91 (Nat.le_of_ble_eq_true rfl) (Nat.le_of_ble_eq_true rfl)
  · have h := if_f hc h
    refine lv_aload_n (pc := 51) hx hb dX10_made_51 rfl (lv_at hl 0 rfl) ?_
    obtain ⟨q7, e8, h⟩ := ob h
    refine bz_getQ (pc := 52) X hM fl_RX10_10 e8 dX10_made_52 ?_
    obtain ⟨v10, M11, e9, h⟩ := ob2 h
    obtain ⟨fs12, hb13⟩ := (rX6_drawTenth e9)
    refine bz_callV1 (pc := 55) (As := []) (rest := []) X hM hl.1 k_RX10_359 (ctX6_drawTenth l e9) rfl hb13 rfl rfl ⟨(Nat.le_of_ble_eq_true rfl), (Nat.le_of_ble_eq_true rfl)⟩ (Nat.le_of_ble_eq_true rfl) ⟨(Nat.le_of_ble_eq_true rfl), (Nat.le_of_ble_eq_true rfl)⟩ dX10_made_55 (fun H locs hM => ?_)
    refine lv_istore (pc := 58) (lv' := [(4, .int v10), (0, .ref (pB P + x0)), (1, .int x1), (2, .int x2), (3, .int x3)]) hx hb dX10_made_58 hl (by decide) rfl (fun ls hl => ?_)
    refine lv_aload_n (pc := 60) hx hb dX10_made_60 rfl (lv_at hl 1 rfl) ?_
    obtain ⟨q14, e15, h⟩ := ob h
    refine bz_getQ (pc := 61) X hM fl_RX10_10 e15 dX10_made_61 ?_
    refine lv_iload_n (pc := 64) hx hb dX10_made_64 rfl (lv_at hl 2 rfl) ?_
    refine lv_iload (pc := 65) hx hb dX10_made_65 (lv_at hl 0 rfl) ?_
    refine lv_aload_n (pc := 67) hx hb dX10_made_67 rfl (lv_at hl 1 rfl) ?_
    obtain ⟨q16, e17, h⟩ := ob h
    refine bz_getQ (pc := 68) X hM fl_RX10_10 e17 dX10_made_68 ?_
    obtain ⟨v19, M20, e18, h⟩ := ob2 h
    obtain ⟨fs21, hb22⟩ := (rX6_drawHeight e18)
    refine bz_callV1 (pc := 71) (As := []) (rest := [.int v10, .int x1, .ref (pB P + q14)]) X hM hl.1 k_RX10_362 (ctX6_drawHeight l e18) rfl hb22 rfl rfl ⟨(Nat.le_of_ble_eq_true rfl), (Nat.le_of_ble_eq_true rfl)⟩ (Nat.le_of_ble_eq_true rfl) ⟨(Nat.le_of_ble_eq_true rfl), (Nat.le_of_ble_eq_true rfl)⟩ dX10_made_71 (fun H locs hM => ?_)
    obtain ⟨v24, M25, e23, h⟩ := ob2 h
    obtain ⟨fs26, hb27⟩ := (rX6_addRing e23)
    refine bz_callV1 (pc := 74) (As := [.int x1, .int v10, .int v19]) (rest := []) X hM hl.1 k_RX10_109 (ctX6_addRing l e23) rfl hb27 rfl rfl ⟨(Nat.le_of_ble_eq_true rfl), (Nat.le_of_ble_eq_true rfl)⟩ (Nat.le_of_ble_eq_true rfl) ⟨(Nat.le_of_ble_eq_true rfl), (Nat.le_of_ble_eq_true rfl)⟩ dX10_made_74 (fun H locs hM => ?_)
    refine lv_pop (pc := 77) hx hb dX10_made_77 rfl ?_
    refine lv_iinc (pc := 78) (v := (x3 + (1 : Int32))) (lv' := [(3, .int (x3 + (1 : Int32))), (4, .int v10), (0, .ref (pB P + x0)), (1, .int x1), (2, .int x2)]) hx hb dX10_made_78 hl (k := 4) rfl rfl (by decide) rfl (fun ls hl => ?_)
    refine lv_goto (pc := 81) (tgt := 46) hx hb dX10_made_81 (by decide) ?_
    exact hK46 _ _ _ _ _ h H locs ls hM (lv_sub hl [2, 3, 4, 0] rfl)
set_option maxHeartbeats 4000000 in
set_option maxRecDepth 100000 in
theorem wLX10_made_46 {p : Program} {l : Launch} {e : Env} {s : State} {m : MethodId} {args : Array Value} {below : List Frame} {meth : Method} {c : Code} {P : PT} {N : Nat}  {r9 : Int32} {M9 : Mm} (hX : Cy p s m args c meth cX10_made 5 RX10 "made" (some .int) P)   : ∀ (n : Nat) (M : Mm) (x0 : Nat) (x1 : Int32) (x2 : Int32) (x3 : Int32) , LX10_made_46 N n M x0 x1 x2 x3 = some (r9, M9) → Wq p l e s m args below meth c 3 0 (some (.int r9)) M9 5 P 0 46 [(0, .ref (pB P + x0)), (1, .int x1), (2, .int x2), (3, .int x3)] [] M := by
  intro n
  induction n with
  | zero => intro M x0 x1 x2 x3 h; cases h
  | succ n ih => intro M x0 x1 x2 x3 h; exact wBX10_made_46 hX ih M x0 x1 x2 x3 h
set_option maxHeartbeats 4000000 in
set_option maxRecDepth 100000 in
theorem wjX10_made_18 {p : Program} {l : Launch} {e : Env} {s : State} {m : MethodId} {args : Array Value} {below : List Frame} {meth : Method} {c : Code} {P : PT} {N : Nat}  {r9 : Int32} {M9 : Mm} (hX : Cy p s m args c meth cX10_made 5 RX10 "made" (some .int) P)   (M : Mm) (x0 : Nat)  (h : jX10_made_18 N M x0 = some (r9, M9)) : Wq p l e s m args below meth c 3 0 (some (.int r9)) M9 5 P 0 18 [(0, .ref (pB P + x0))] [] M := by
  unfold jX10_made_18 at h
  have hX0 := hX
  obtain ⟨X, hr, hlk, hnm⟩ := hX0
  have hx := X.1.1
  have hb := X.1.2.1
  intro H locs ls hM hl
  refine lv_aload_n (pc := 18) hx hb dX10_made_18 rfl (lv_at hl 0 rfl) ?_
  refine lv_iconst (pc := 19) (v := (1 : Int32)) hx hb dX10_made_19 (by decide) ?_
  obtain ⟨v2, M3, e1, h⟩ := ob2 h
  obtain ⟨fs4, hb5⟩ := (rX10_error e1)
  refine bz_callV1 (pc := 20) (As := [.int (1 : Int32)]) (rest := []) X hM hl.1 k_RX10_78 (ctX10_error l e1) rfl hb5 rfl rfl ⟨(Nat.le_of_ble_eq_true rfl), (Nat.le_of_ble_eq_true rfl)⟩ (Nat.le_of_ble_eq_true rfl) ⟨(Nat.le_of_ble_eq_true rfl), (Nat.le_of_ble_eq_true rfl)⟩ dX10_made_20 (fun H locs hM => ?_)
  obtain ⟨rfl, rfl⟩ := so2 h
  exact bz_iret (pc := 23) X hM hr hlk dX10_made_23 (Nat.le_of_ble_eq_true rfl) (Nat.le_of_ble_eq_true rfl)
set_option maxHeartbeats 4000000 in
set_option maxRecDepth 100000 in
theorem wX10_made {p : Program} {l : Launch} {e : Env} {s : State} {m : MethodId} {args : Array Value} {below : List Frame} {meth : Method} {c : Code} {P : PT} {N : Nat}  {r9 : Int32} {M9 : Mm} (hX : Cy p s m args c meth cX10_made 5 RX10 "made" (some .int) P)  (M : Mm) (a0 : Nat) (a1 : Int32) (a2 : Int32) (h : fX10_made N M a0 a1 a2 = some (r9, M9)) : Wq p l e s m args below meth c 3 0 (some (.int r9)) M9 5 P 0 0 [(0, .ref (pB P + a0)), (1, .int a1), (2, .int a2)] [] M := by
  unfold fX10_made at h
  obtain ⟨_, _, h⟩ := ob h
  have hX0 := hX
  obtain ⟨X, hr, hlk, hnm⟩ := hX0
  have hx := X.1.1
  have hb := X.1.2.1
  intro H locs ls hM hl
  refine lv_aload_n (pc := 0) hx hb dX10_made_0 rfl (lv_at hl 0 rfl) ?_
  refine lv_iload_n (pc := 1) hx hb dX10_made_1 rfl (lv_at hl 1 rfl) ?_
  obtain ⟨v2, e1, h⟩ := ob h
  obtain ⟨fs3, hb4⟩ := (rX10_isBar e1)
  refine bz_callV1 (pc := 2) (As := [.int a1]) (rest := []) X hM hl.1 k_RX10_100 (ctX10_isBar l e1) rfl hb4 rfl rfl ⟨(Nat.le_of_ble_eq_true rfl), (Nat.le_of_ble_eq_true rfl)⟩ (Nat.le_of_ble_eq_true rfl) ⟨(Nat.le_of_ble_eq_true rfl), (Nat.le_of_ble_eq_true rfl)⟩ dX10_made_2 (fun H locs hM => ?_)
  refine lv_if_eq (pc := 5) (tgt := 18) hx hb dX10_made_5 (by decide) (fun hc => ?_) (fun hc => ?_)
  · have h := if_t hc h
    exact wjX10_made_18 hX _ _ h H locs ls hM (lv_sub hl [0] rfl)
  · have h := if_f hc h
    refine lv_iload_n (pc := 8) hx hb dX10_made_8 rfl (lv_at hl 2 rfl) ?_
    refine lv_iconst (pc := 9) (v := (1 : Int32)) hx hb dX10_made_9 (by decide) ?_
    refine lv_bipush (pc := 10) (v := (20 : Int32)) hx hb dX10_made_10 (by decide) ?_
    obtain ⟨v6, e5, h⟩ := ob h
    refine bz_callS1 (pc := 12) (As := [.int a2, .int (1 : Int32), .int (20 : Int32)]) (rest := []) X hM hl.1 k_RX10_74 (ctX10_within l e5) rfl rfl ⟨(Nat.le_of_ble_eq_true rfl), (Nat.le_of_ble_eq_true rfl)⟩ (Nat.le_of_ble_eq_true rfl) ⟨(Nat.le_of_ble_eq_true rfl), (Nat.le_of_ble_eq_true rfl)⟩ dX10_made_12 (fun H locs hM => ?_)
    refine lv_if_ne (pc := 15) (tgt := 24) hx hb dX10_made_15 (by decide) (fun hc => ?_) (fun hc => ?_)
    · have h := if_f hc h
      refine lv_aload_n (pc := 24) hx hb dX10_made_24 rfl (lv_at hl 0 rfl) ?_
      obtain ⟨q7, e8, h⟩ := ob h
      refine bz_getQ (pc := 25) X hM fl_RX10_10 e8 dX10_made_25 ?_
      obtain ⟨q9, e10, h⟩ := ob h
      refine bz_getQ (pc := 28) X hM fl_RX10_118 e10 dX10_made_28 ?_
      obtain ⟨v12, e11, h⟩ := ob h
      obtain ⟨fs13, hb14⟩ := (rX3_room e11)
      refine bz_callV1 (pc := 31) (As := []) (rest := []) X hM hl.1 k_RX10_176 (ctX3_room l e11) rfl hb14 rfl rfl ⟨(Nat.le_of_ble_eq_true rfl), (Nat.le_of_ble_eq_true rfl)⟩ (Nat.le_of_ble_eq_true rfl) ⟨(Nat.le_of_ble_eq_true rfl), (Nat.le_of_ble_eq_true rfl)⟩ dX10_made_31 (fun H locs hM => ?_)
      refine lv_iload_n (pc := 34) hx hb dX10_made_34 rfl (lv_at hl 2 rfl) ?_
      refine lv_icmp_ge (pc := 35) (tgt := 44) hx hb dX10_made_35 (by decide) (fun hc => ?_) (fun hc => ?_)
      · have h := if_t hc h
        refine lv_iconst (pc := 44) (v := (0 : Int32)) hx hb dX10_made_44 (by decide) ?_
        refine lv_istore_n (pc := 45) (lv' := [(3, .int (0 : Int32)), (0, .ref (pB P + a0)), (1, .int a1), (2, .int a2)]) hx hb dX10_made_45 rfl hl (by decide) rfl (fun ls hl => ?_)
        exact wLX10_made_46 hX _ _ _ _ _ _ h H locs ls hM (lv_sub hl [1, 2, 3, 0] rfl)
      · have h := if_f hc h
        refine lv_aload_n (pc := 38) hx hb dX10_made_38 rfl (lv_at hl 0 rfl) ?_
        refine lv_iconst (pc := 39) (v := (4 : Int32)) hx hb dX10_made_39 (by decide) ?_
        obtain ⟨v16, M17, e15, h⟩ := ob2 h
        obtain ⟨fs18, hb19⟩ := (rX10_error e15)
        refine bz_callV1 (pc := 40) (As := [.int (4 : Int32)]) (rest := []) X hM hl.1 k_RX10_78 (ctX10_error l e15) rfl hb19 rfl rfl ⟨(Nat.le_of_ble_eq_true rfl), (Nat.le_of_ble_eq_true rfl)⟩ (Nat.le_of_ble_eq_true rfl) ⟨(Nat.le_of_ble_eq_true rfl), (Nat.le_of_ble_eq_true rfl)⟩ dX10_made_40 (fun H locs hM => ?_)
        obtain ⟨rfl, rfl⟩ := so2 h
        exact bz_iret (pc := 43) X hM hr hlk dX10_made_43 (Nat.le_of_ble_eq_true rfl) (Nat.le_of_ble_eq_true rfl)
    · have h := if_t hc h
      exact wjX10_made_18 hX _ _ h H locs ls hM (lv_sub hl [0] rfl)
theorem rX10_made {N : Nat} {M : Mm} {a0 : Nat} {a1 : Int32} {a2 : Int32} {r9 : Int32 × Mm} (h : fX10_made N M a0 a1 a2 = some r9) : ∃ fs, M[a0]? = some (.inr (10, fs)) := by
  unfold fX10_made at h
  obtain ⟨_, e1, _⟩ := ob h
  exact gC_spec e1
theorem ctX10_made (l : Launch) {P : PT} {N : Nat} {M : Mm} {a0 : Nat} {a1 : Int32} {a2 : Int32} {r9 : Int32} {M9 : Mm} (h : fX10_made N M a0 a1 a2 = some (r9, M9)) : Ct l yX10_made cX10_made 5 (some .int) 3 0 P [.ref (pB P + a0), .int a1, .int a2] M (some (.int r9)) M9 :=
  Ct.mk (by decide +kernel) (Nat.le_of_ble_eq_true rfl) (fun p e s m args below meth c hX => wX10_made hX M a0 a1 a2 h)
set_option maxHeartbeats 4000000 in
set_option maxRecDepth 100000 in
theorem wX11_draw {p : Program} {l : Launch} {e : Env} {s : State} {m : MethodId} {args : Array Value} {below : List Frame} {meth : Method} {c : Code} {P : PT}  {r9 : Int32} {M9 : Mm} (hX : Cy p s m args c meth cX11_draw 1 RX11 "draw" (some .int) P)  (M : Mm) (a0 : Nat) (h : fX11_draw M a0 = some (r9, M9)) : Wq p l e s m args below meth c 0 0 (some (.int r9)) M9 1 P 0 0 [(0, .ref (pB P + a0))] [] M := by
  unfold fX11_draw at h
  obtain ⟨_, _, h⟩ := ob h
  have hX0 := hX
  obtain ⟨X, hr, hlk, hnm⟩ := hX0
  have hx := X.1.1
  have hb := X.1.2.1
  intro H locs ls hM hl
  refine lv_aload_n (pc := 0) hx hb dX11_draw_0 rfl (lv_at hl 0 rfl) ?_
  obtain ⟨q1, e2, h⟩ := ob h
  refine bz_getQ (pc := 1) X hM fl_RX11_9 e2 dX11_draw_1 ?_
  refine lv_bipush (pc := 4) (v := (8 : Int32)) hx hb dX11_draw_4 (by decide) ?_
  refine lv_aload_n (pc := 6) hx hb dX11_draw_6 rfl (lv_at hl 0 rfl) ?_
  obtain ⟨q3, e4, h⟩ := ob h
  refine bz_getQ (pc := 7) X hM fl_RX11_9 e4 dX11_draw_7 ?_
  refine lv_bipush (pc := 10) (v := (8 : Int32)) hx hb dX11_draw_10 (by decide) ?_
  obtain ⟨v5, e6, h⟩ := ob h
  refine bz_iald (pc := 12) X hM e6 dX11_draw_12 ?_
  refine lv_ldcw (pc := 13) (v := (1103515245 : Int32)) hx hb X.1.2.2.2.1 (X.1.2.2.2.2 _ g_1658) dX11_draw_13 ?_
  refine lv_imul (pc := 16) hx hb dX11_draw_16 ?_
  refine lv_sipush (pc := 17) (v := (12345 : Int32)) hx hb dX11_draw_17 (by decide) ?_
  refine lv_iadd (pc := 20) hx hb dX11_draw_20 ?_
  obtain ⟨M7, e8, h⟩ := ob h
  refine bz_iast (pc := 21) X hM e8 dX11_draw_21 (fun H locs hM => ?_)
  refine lv_aload_n (pc := 22) hx hb dX11_draw_22 rfl (lv_at hl 0 rfl) ?_
  obtain ⟨q9, e10, h⟩ := ob h
  refine bz_getQ (pc := 23) X hM fl_RX11_9 e10 dX11_draw_23 ?_
  refine lv_bipush (pc := 26) (v := (8 : Int32)) hx hb dX11_draw_26 (by decide) ?_
  obtain ⟨v11, e12, h⟩ := ob h
  refine bz_iald (pc := 28) X hM e12 dX11_draw_28 ?_
  refine lv_bipush (pc := 29) (v := (8 : Int32)) hx hb dX11_draw_29 (by decide) ?_
  refine lv_iushr (pc := 31) (v := (((v11).toUInt32 >>> (((8 : Int32)).toUInt32 &&& Int32.toUInt32 31)).toInt32)) hx hb dX11_draw_31 rfl ?_
  obtain ⟨rfl, rfl⟩ := so2 h
  exact bz_iret (pc := 32) X hM hr hlk dX11_draw_32 (Nat.le_of_ble_eq_true rfl) (Nat.le_of_ble_eq_true rfl)
theorem rX11_draw {M : Mm} {a0 : Nat} {r9 : Int32 × Mm} (h : fX11_draw M a0 = some r9) : ∃ fs, M[a0]? = some (.inr (11, fs)) := by
  unfold fX11_draw at h
  obtain ⟨_, e1, _⟩ := ob h
  exact gC_spec e1
theorem ctX11_draw (l : Launch) {P : PT} {M : Mm} {a0 : Nat} {r9 : Int32} {M9 : Mm} (h : fX11_draw M a0 = some (r9, M9)) : Ct l yX11_draw cX11_draw 1 (some .int) 0 0 P [.ref (pB P + a0)] M (some (.int r9)) M9 :=
  Ct.mk (by decide +kernel) (Nat.le_of_ble_eq_true rfl) (fun p e s m args below meth c hX => wX11_draw hX M a0 h)
set_option maxHeartbeats 4000000 in
set_option maxRecDepth 100000 in
theorem wBX11_made_47 {p : Program} {l : Launch} {e : Env} {s : State} {m : MethodId} {args : Array Value} {below : List Frame} {meth : Method} {c : Code} {P : PT} {N : Nat} {K47 : Mm → Nat → Int32 → Int32 → Int32 → Option (Int32 × Mm)}  {r9 : Int32} {M9 : Mm} (hX : Cy p s m args c meth cX11_made 5 RX11 "made" (some .int) P)  (hK47 : ∀ (M : Mm) (x0 : Nat) (x1 : Int32) (x2 : Int32) (x3 : Int32), K47 M x0 x1 x2 x3 = some (r9, M9) → Wq p l e s m args below meth c 2 0 (some (.int r9)) M9 5 P 0 47 [(0, .ref (pB P + x0)), (1, .int x1), (2, .int x2), (3, .int x3)] [] M) (M : Mm) (x0 : Nat) (x1 : Int32) (x2 : Int32) (x3 : Int32)  (h : BX11_made_47 N K47 M x0 x1 x2 x3 = some (r9, M9)) : Wq p l e s m args below meth c 2 0 (some (.int r9)) M9 5 P 0 47 [(0, .ref (pB P + x0)), (1, .int x1), (2, .int x2), (3, .int x3)] [] M := by
  unfold BX11_made_47 at h
  have hX0 := hX
  obtain ⟨X, hr, hlk, hnm⟩ := hX0
  have hx := X.1.1
  have hb := X.1.2.1
  intro H locs ls hM hl
  refine lv_iload_n (pc := 47) hx hb dX11_made_47 rfl (lv_at hl 3 rfl) ?_
  refine lv_iload_n (pc := 48) hx hb dX11_made_48 rfl (lv_at hl 2 rfl) ?_
  refine lv_icmp_ge (pc := 49) (tgt := 85) hx hb dX11_made_49 (by decide) (fun hc => ?_) (fun hc => ?_)
  · have h := if_t hc h
    refine lv_aload_n (pc := 85) hx hb dX11_made_85 rfl (lv_at hl 0 rfl) ?_
    obtain ⟨q1, e2, h⟩ := ob h
    refine bz_getQ (pc := 86) X hM fl_RX11_9 e2 dX11_made_86 ?_
    refine lv_iconst (pc := 89) (v := (1 : Int32)) hx hb dX11_made_89 (by decide) ?_
    obtain ⟨v3, e4, h⟩ := ob h
    refine bz_iald (pc := 90) X hM e4 dX11_made_90 ?_
    obtain ⟨rfl, rfl⟩ := so2 h
    exact bz_iret (pc := 91) X hM hr hlk dX11_made_91 (Nat.le_of_ble_eq_true rfl) (Nat.le_of_ble_eq_true rfl)
  · have h := if_f hc h
    refine lv_aload_n (pc := 52) hx hb dX11_made_52 rfl (lv_at hl 0 rfl) ?_
    obtain ⟨v6, M7, e5, h⟩ := ob2 h
    obtain ⟨fs8, hb9⟩ := (rX11_draw e5)
    refine bz_callV1 (pc := 53) (As := []) (rest := []) X hM hl.1 k_RX11_316 (ctX11_draw l e5) rfl hb9 rfl rfl ⟨(Nat.le_of_ble_eq_true rfl), (Nat.le_of_ble_eq_true rfl)⟩ (Nat.le_of_ble_eq_true rfl) ⟨(Nat.le_of_ble_eq_true rfl), (Nat.le_of_ble_eq_true rfl)⟩ dX11_made_53 (fun H locs hM => ?_)
    refine lv_sipush (pc := 56) (v := (2400 : Int32)) hx hb dX11_made_56 (by decide) ?_
    refine bz_irem (pc := 59) hx hb dX11_made_59 (by decide) ?_
    refine lv_istore (pc := 60) (lv' := [(4, .int (rmI v6 ((2400 : Int32)))), (0, .ref (pB P + x0)), (1, .int x1), (2, .int x2), (3, .int x3)]) hx hb dX11_made_60 hl (by decide) rfl (fun ls hl => ?_)
    refine lv_aload_n (pc := 62) hx hb dX11_made_62 rfl (lv_at hl 1 rfl) ?_
    refine lv_iload_n (pc := 63) hx hb dX11_made_63 rfl (lv_at hl 2 rfl) ?_
    refine lv_iload (pc := 64) hx hb dX11_made_64 (lv_at hl 0 rfl) ?_
    refine lv_iconst (pc := 66) (v := (1 : Int32)) hx hb dX11_made_66 (by decide) ?_
    refine lv_aload_n (pc := 67) hx hb dX11_made_67 rfl (lv_at hl 1 rfl) ?_
    obtain ⟨v11, M12, e10, h⟩ := ob2 h
    obtain ⟨fs13, hb14⟩ := (rX11_draw e10)
    refine bz_callV1 (pc := 68) (As := []) (rest := [.int (1 : Int32), .int (rmI v6 ((2400 : Int32))), .int x1, .ref (pB P + x0)]) X hM hl.1 k_RX11_316 (ctX11_draw l e10) rfl hb14 rfl rfl ⟨(Nat.le_of_ble_eq_true rfl), (Nat.le_of_ble_eq_true rfl)⟩ (Nat.le_of_ble_eq_true rfl) ⟨(Nat.le_of_ble_eq_true rfl), (Nat.le_of_ble_eq_true rfl)⟩ dX11_made_68 (fun H locs hM => ?_)
    refine lv_sipush (pc := 71) (v := (999 : Int32)) hx hb dX11_made_71 (by decide) ?_
    refine bz_irem (pc := 74) hx hb dX11_made_74 (by decide) ?_
    refine lv_iadd (pc := 75) hx hb dX11_made_75 ?_
    obtain ⟨M16, e15, h⟩ := ob h
    obtain ⟨fs17, hb18⟩ := (rX11_rings e15)
    refine bz_callV0 (pc := 76) (As := [.int x1, .int (rmI v6 ((2400 : Int32))), .int ((1 : Int32) + (rmI v11 ((999 : Int32))))]) (rest := []) X hM hl.1 k_RX11_83 (ctX11_rings l e15) rfl hb18 rfl rfl ⟨(Nat.le_of_ble_eq_true rfl), (Nat.le_of_ble_eq_true rfl)⟩ (Nat.le_of_ble_eq_true rfl) ⟨(Nat.le_of_ble_eq_true rfl), (Nat.le_of_ble_eq_true rfl)⟩ dX11_made_76 (fun H locs hM => ?_)
    refine lv_iinc (pc := 79) (v := (x3 + (1 : Int32))) (lv' := [(3, .int (x3 + (1 : Int32))), (4, .int (rmI v6 ((2400 : Int32)))), (0, .ref (pB P + x0)), (1, .int x1), (2, .int x2)]) hx hb dX11_made_79 hl (k := 4) rfl rfl (by decide) rfl (fun ls hl => ?_)
    refine lv_goto (pc := 82) (tgt := 47) hx hb dX11_made_82 (by decide) ?_
    exact hK47 _ _ _ _ _ h H locs ls hM (lv_sub hl [2, 3, 4, 0] rfl)
set_option maxHeartbeats 4000000 in
set_option maxRecDepth 100000 in
theorem wLX11_made_47 {p : Program} {l : Launch} {e : Env} {s : State} {m : MethodId} {args : Array Value} {below : List Frame} {meth : Method} {c : Code} {P : PT} {N : Nat}  {r9 : Int32} {M9 : Mm} (hX : Cy p s m args c meth cX11_made 5 RX11 "made" (some .int) P)   : ∀ (n : Nat) (M : Mm) (x0 : Nat) (x1 : Int32) (x2 : Int32) (x3 : Int32) , LX11_made_47 N n M x0 x1 x2 x3 = some (r9, M9) → Wq p l e s m args below meth c 2 0 (some (.int r9)) M9 5 P 0 47 [(0, .ref (pB P + x0)), (1, .int x1), (2, .int x2), (3, .int x3)] [] M := by
  intro n
  induction n with
  | zero => intro M x0 x1 x2 x3 h; cases h
  | succ n ih => intro M x0 x1 x2 x3 h; exact wBX11_made_47 hX ih M x0 x1 x2 x3 h
set_option maxHeartbeats 4000000 in
set_option maxRecDepth 100000 in
theorem wjX11_made_20 {p : Program} {l : Launch} {e : Env} {s : State} {m : MethodId} {args : Array Value} {below : List Frame} {meth : Method} {c : Code} {P : PT} {N : Nat}  {r9 : Int32} {M9 : Mm} (hX : Cy p s m args c meth cX11_made 5 RX11 "made" (some .int) P)   (M : Mm) (x0 : Nat)  (h : jX11_made_20 N M x0 = some (r9, M9)) : Wq p l e s m args below meth c 2 0 (some (.int r9)) M9 5 P 0 20 [(0, .ref (pB P + x0))] [] M := by
  unfold jX11_made_20 at h
  have hX0 := hX
  obtain ⟨X, hr, hlk, hnm⟩ := hX0
  have hx := X.1.1
  have hb := X.1.2.1
  intro H locs ls hM hl
  refine lv_aload_n (pc := 20) hx hb dX11_made_20 rfl (lv_at hl 0 rfl) ?_
  refine lv_iconst (pc := 21) (v := (1 : Int32)) hx hb dX11_made_21 (by decide) ?_
  obtain ⟨v2, M3, e1, h⟩ := ob2 h
  obtain ⟨fs4, hb5⟩ := (rX11_error e1)
  refine bz_callV1 (pc := 22) (As := [.int (1 : Int32)]) (rest := []) X hM hl.1 k_RX11_73 (ctX11_error l e1) rfl hb5 rfl rfl ⟨(Nat.le_of_ble_eq_true rfl), (Nat.le_of_ble_eq_true rfl)⟩ (Nat.le_of_ble_eq_true rfl) ⟨(Nat.le_of_ble_eq_true rfl), (Nat.le_of_ble_eq_true rfl)⟩ dX11_made_22 (fun H locs hM => ?_)
  obtain ⟨rfl, rfl⟩ := so2 h
  exact bz_iret (pc := 25) X hM hr hlk dX11_made_25 (Nat.le_of_ble_eq_true rfl) (Nat.le_of_ble_eq_true rfl)
set_option maxHeartbeats 4000000 in
set_option maxRecDepth 100000 in
theorem wX11_made {p : Program} {l : Launch} {e : Env} {s : State} {m : MethodId} {args : Array Value} {below : List Frame} {meth : Method} {c : Code} {P : PT} {N : Nat}  {r9 : Int32} {M9 : Mm} (hX : Cy p s m args c meth cX11_made 5 RX11 "made" (some .int) P)  (M : Mm) (a0 : Nat) (a1 : Int32) (a2 : Int32) (h : fX11_made N M a0 a1 a2 = some (r9, M9)) : Wq p l e s m args below meth c 2 0 (some (.int r9)) M9 5 P 0 0 [(0, .ref (pB P + a0)), (1, .int a1), (2, .int a2)] [] M := by
  unfold fX11_made at h
  obtain ⟨_, _, h⟩ := ob h
  have hX0 := hX
  obtain ⟨X, hr, hlk, hnm⟩ := hX0
  have hx := X.1.1
  have hb := X.1.2.1
  intro H locs ls hM hl
  refine lv_aload_n (pc := 0) hx hb dX11_made_0 rfl (lv_at hl 0 rfl) ?_
  refine lv_iload_n (pc := 1) hx hb dX11_made_1 rfl (lv_at hl 1 rfl) ?_
  obtain ⟨v2, e1, h⟩ := ob h
  obtain ⟨fs3, hb4⟩ := (rX11_isBar e1)
  refine bz_callV1 (pc := 2) (As := [.int a1]) (rest := []) X hM hl.1 k_RX11_65 (ctX11_isBar l e1) rfl hb4 rfl rfl ⟨(Nat.le_of_ble_eq_true rfl), (Nat.le_of_ble_eq_true rfl)⟩ (Nat.le_of_ble_eq_true rfl) ⟨(Nat.le_of_ble_eq_true rfl), (Nat.le_of_ble_eq_true rfl)⟩ dX11_made_2 (fun H locs hM => ?_)
  refine lv_if_eq (pc := 5) (tgt := 20) hx hb dX11_made_5 (by decide) (fun hc => ?_) (fun hc => ?_)
  · have h := if_t hc h
    exact wjX11_made_20 hX _ _ h H locs ls hM (lv_sub hl [0] rfl)
  · have h := if_f hc h
    refine lv_iload_n (pc := 8) hx hb dX11_made_8 rfl (lv_at hl 2 rfl) ?_
    refine lv_i2l (pc := 9) (v := ((a2).toInt64)) hx hb dX11_made_9 rfl ?_
    refine lv_lconst (pc := 10) (v := (1 : Int64)) hx hb dX11_made_10 (by decide) ?_
    refine lv_ldc2 (pc := 11) (v := (20 : Int64)) hx hb X.1.2.2.2.1 (X.1.2.2.2.2 _ g_1653) dX11_made_11 ?_
    obtain ⟨v6, e5, h⟩ := ob h
    refine bz_callS1 (pc := 14) (As := [.long ((a2).toInt64), .long (1 : Int64), .long (20 : Int64)]) (rest := []) X hM hl.1 k_RX11_57 (ctX11_in l e5) rfl rfl ⟨(Nat.le_of_ble_eq_true rfl), (Nat.le_of_ble_eq_true rfl)⟩ (Nat.le_of_ble_eq_true rfl) ⟨(Nat.le_of_ble_eq_true rfl), (Nat.le_of_ble_eq_true rfl)⟩ dX11_made_14 (fun H locs hM => ?_)
    refine lv_if_ne (pc := 17) (tgt := 26) hx hb dX11_made_17 (by decide) (fun hc => ?_) (fun hc => ?_)
    · have h := if_f hc h
      refine lv_aload_n (pc := 26) hx hb dX11_made_26 rfl (lv_at hl 0 rfl) ?_
      obtain ⟨q7, e8, h⟩ := ob h
      refine bz_getQ (pc := 27) X hM fl_RX11_9 e8 dX11_made_27 ?_
      refine lv_iconst (pc := 30) (v := (1 : Int32)) hx hb dX11_made_30 (by decide) ?_
      obtain ⟨v9, e10, h⟩ := ob h
      refine bz_iald (pc := 31) X hM e10 dX11_made_31 ?_
      refine lv_iload_n (pc := 32) hx hb dX11_made_32 rfl (lv_at hl 2 rfl) ?_
      refine lv_iadd (pc := 33) hx hb dX11_made_33 ?_
      refine lv_bipush (pc := 34) (v := (96 : Int32)) hx hb dX11_made_34 (by decide) ?_
      refine lv_icmp_le (pc := 36) (tgt := 45) hx hb dX11_made_36 (by decide) (fun hc => ?_) (fun hc => ?_)
      · have h := if_t hc h
        refine lv_iconst (pc := 45) (v := (0 : Int32)) hx hb dX11_made_45 (by decide) ?_
        refine lv_istore_n (pc := 46) (lv' := [(3, .int (0 : Int32)), (0, .ref (pB P + a0)), (1, .int a1), (2, .int a2)]) hx hb dX11_made_46 rfl hl (by decide) rfl (fun ls hl => ?_)
        exact wLX11_made_47 hX _ _ _ _ _ _ h H locs ls hM (lv_sub hl [1, 2, 3, 0] rfl)
      · have h := if_f hc h
        refine lv_aload_n (pc := 39) hx hb dX11_made_39 rfl (lv_at hl 0 rfl) ?_
        refine lv_iconst (pc := 40) (v := (4 : Int32)) hx hb dX11_made_40 (by decide) ?_
        obtain ⟨v12, M13, e11, h⟩ := ob2 h
        obtain ⟨fs14, hb15⟩ := (rX11_error e11)
        refine bz_callV1 (pc := 41) (As := [.int (4 : Int32)]) (rest := []) X hM hl.1 k_RX11_73 (ctX11_error l e11) rfl hb15 rfl rfl ⟨(Nat.le_of_ble_eq_true rfl), (Nat.le_of_ble_eq_true rfl)⟩ (Nat.le_of_ble_eq_true rfl) ⟨(Nat.le_of_ble_eq_true rfl), (Nat.le_of_ble_eq_true rfl)⟩ dX11_made_41 (fun H locs hM => ?_)
        obtain ⟨rfl, rfl⟩ := so2 h
        exact bz_iret (pc := 44) X hM hr hlk dX11_made_44 (Nat.le_of_ble_eq_true rfl) (Nat.le_of_ble_eq_true rfl)
    · have h := if_t hc h
      exact wjX11_made_20 hX _ _ h H locs ls hM (lv_sub hl [0] rfl)
theorem rX11_made {N : Nat} {M : Mm} {a0 : Nat} {a1 : Int32} {a2 : Int32} {r9 : Int32 × Mm} (h : fX11_made N M a0 a1 a2 = some r9) : ∃ fs, M[a0]? = some (.inr (11, fs)) := by
  unfold fX11_made at h
  obtain ⟨_, e1, _⟩ := ob h
  exact gC_spec e1
theorem ctX11_made (l : Launch) {P : PT} {N : Nat} {M : Mm} {a0 : Nat} {a1 : Int32} {a2 : Int32} {r9 : Int32} {M9 : Mm} (h : fX11_made N M a0 a1 a2 = some (r9, M9)) : Ct l yX11_made cX11_made 5 (some .int) 2 0 P [.ref (pB P + a0), .int a1, .int a2] M (some (.int r9)) M9 :=
  Ct.mk (by decide +kernel) (Nat.le_of_ble_eq_true rfl) (fun p e s m args below meth c hX => wX11_made hX M a0 a1 a2 h)
set_option maxHeartbeats 4000000 in
set_option maxRecDepth 100000 in
theorem wBX10_both_48 {p : Program} {l : Launch} {e : Env} {s : State} {m : MethodId} {args : Array Value} {below : List Frame} {meth : Method} {c : Code} {P : PT} {N : Nat} {K48 : Mm → Nat → Int32 → Int32 → Int32 → Option (Int32 × Mm)}  {r9 : Int32} {M9 : Mm} (hX : Cy p s m args c meth cX10_both 6 RX10 "both" (some .int) P)  (hK48 : ∀ (M : Mm) (x0 : Nat) (x1 : Int32) (x2 : Int32) (x3 : Int32), K48 M x0 x1 x2 x3 = some (r9, M9) → Wq p l e s m args below meth c 3 0 (some (.int r9)) M9 6 P 0 48 [(0, .ref (pB P + x0)), (1, .int x1), (2, .int x2), (3, .int x3)] [] M) (M : Mm) (x0 : Nat) (x1 : Int32) (x2 : Int32) (x3 : Int32)  (h : BX10_both_48 N K48 M x0 x1 x2 x3 = some (r9, M9)) : Wq p l e s m args below meth c 3 0 (some (.int r9)) M9 6 P 0 48 [(0, .ref (pB P + x0)), (1, .int x1), (2, .int x2), (3, .int x3)] [] M := by
  unfold BX10_both_48 at h
  have hX0 := hX
  obtain ⟨X, hr, hlk, hnm⟩ := hX0
  have hx := X.1.1
  have hb := X.1.2.1
  intro H locs ls hM hl
  refine lv_iload_n (pc := 48) hx hb dX10_both_48 rfl (lv_at hl 3 rfl) ?_
  refine lv_iload_n (pc := 49) hx hb dX10_both_49 rfl (lv_at hl 2 rfl) ?_
  refine lv_icmp_ge (pc := 50) (tgt := 109) hx hb dX10_both_50 (by decide) (fun hc => ?_) (fun hc => ?_)
  · have h := if_t hc h
    refine lv_aload_n (pc := 109) hx hb dX10_both_109 rfl (lv_at hl 0 rfl) ?_
    obtain ⟨q1, e2, h⟩ := ob h
    refine bz_getQ (pc := 110) X hM fl_RX10_10 e2 dX10_both_110 ?_
    obtain ⟨v4, e3, h⟩ := ob h
    obtain ⟨fs5, hb6⟩ := (rX6_rings e3)
    refine bz_callV1 (pc := 113) (As := []) (rest := []) X hM hl.1 k_RX10_112 (ctX6_rings l e3) rfl hb6 rfl rfl ⟨(Nat.le_of_ble_eq_true rfl), (Nat.le_of_ble_eq_true rfl)⟩ (Nat.le_of_ble_eq_true rfl) ⟨(Nat.le_of_ble_eq_true rfl), (Nat.le_of_ble_eq_true rfl)⟩ dX10_both_113 (fun H locs hM => ?_)
    obtain ⟨rfl, rfl⟩ := so2 h
    exact bz_iret (pc := 116) X hM hr hlk dX10_both_116 (Nat.le_of_ble_eq_true rfl) (Nat.le_of_ble_eq_true rfl)
  · have h := if_f hc h
    refine lv_aload_n (pc := 53) hx hb dX10_both_53 rfl (lv_at hl 0 rfl) ?_
    obtain ⟨q7, e8, h⟩ := ob h
    refine bz_getQ (pc := 54) X hM fl_RX10_10 e8 dX10_both_54 ?_
    obtain ⟨v10, M11, e9, h⟩ := ob2 h
    obtain ⟨fs12, hb13⟩ := (rX6_drawTenth e9)
    refine bz_callV1 (pc := 57) (As := []) (rest := []) X hM hl.1 k_RX10_359 (ctX6_drawTenth l e9) rfl hb13 rfl rfl ⟨(Nat.le_of_ble_eq_true rfl), (Nat.le_of_ble_eq_true rfl)⟩ (Nat.le_of_ble_eq_true rfl) ⟨(Nat.le_of_ble_eq_true rfl), (Nat.le_of_ble_eq_true rfl)⟩ dX10_both_57 (fun H locs hM => ?_)
    refine lv_istore (pc := 60) (lv' := [(4, .int v10), (0, .ref (pB P + x0)), (1, .int x1), (2, .int x2), (3, .int x3)]) hx hb dX10_both_60 hl (by decide) rfl (fun ls hl => ?_)
    refine lv_aload_n (pc := 62) hx hb dX10_both_62 rfl (lv_at hl 1 rfl) ?_
    obtain ⟨q14, e15, h⟩ := ob h
    refine bz_getQ (pc := 63) X hM fl_RX10_10 e15 dX10_both_63 ?_
    obtain ⟨v17, M18, e16, h⟩ := ob2 h
    obtain ⟨fs19, hb20⟩ := (rX6_drawHeight e16)
    refine bz_callV1 (pc := 66) (As := []) (rest := []) X hM hl.1 k_RX10_362 (ctX6_drawHeight l e16) rfl hb20 rfl rfl ⟨(Nat.le_of_ble_eq_true rfl), (Nat.le_of_ble_eq_true rfl)⟩ (Nat.le_of_ble_eq_true rfl) ⟨(Nat.le_of_ble_eq_true rfl), (Nat.le_of_ble_eq_true rfl)⟩ dX10_both_66 (fun H locs hM => ?_)
    refine lv_istore (pc := 69) (lv' := [(5, .int v17), (4, .int v10), (0, .ref (pB P + x0)), (1, .int x1), (2, .int x2), (3, .int x3)]) hx hb dX10_both_69 hl (by decide) rfl (fun ls hl => ?_)
    refine lv_aload_n (pc := 71) hx hb dX10_both_71 rfl (lv_at hl 2 rfl) ?_
    obtain ⟨q21, e22, h⟩ := ob h
    refine bz_getQ (pc := 72) X hM fl_RX10_10 e22 dX10_both_72 ?_
    refine lv_iload_n (pc := 75) hx hb dX10_both_75 rfl (lv_at hl 3 rfl) ?_
    refine lv_bipush (pc := 76) (v := (10 : Int32)) hx hb dX10_both_76 (by decide) ?_
    refine lv_idiv (pc := 78) hx hb dX10_both_78 (by decide) ?_
    refine lv_iload (pc := 79) hx hb dX10_both_79 (lv_at hl 1 rfl) ?_
    refine lv_iload (pc := 81) hx hb dX10_both_81 (lv_at hl 0 rfl) ?_
    obtain ⟨v24, M25, e23, h⟩ := ob2 h
    obtain ⟨fs26, hb27⟩ := (rX6_addRing e23)
    refine bz_callV1 (pc := 83) (As := [.int (x1 / (10 : Int32)), .int v10, .int v17]) (rest := []) X hM hl.1 k_RX10_109 (ctX6_addRing l e23) rfl hb27 rfl rfl ⟨(Nat.le_of_ble_eq_true rfl), (Nat.le_of_ble_eq_true rfl)⟩ (Nat.le_of_ble_eq_true rfl) ⟨(Nat.le_of_ble_eq_true rfl), (Nat.le_of_ble_eq_true rfl)⟩ dX10_both_83 (fun H locs hM => ?_)
    refine lv_pop (pc := 86) hx hb dX10_both_86 rfl ?_
    refine lv_aload_n (pc := 87) hx hb dX10_both_87 rfl (lv_at hl 2 rfl) ?_
    obtain ⟨q28, e29, h⟩ := ob h
    refine bz_getQ (pc := 88) X hM fl_RX10_10 e29 dX10_both_88 ?_
    refine lv_iload_n (pc := 91) hx hb dX10_both_91 rfl (lv_at hl 3 rfl) ?_
    refine lv_bipush (pc := 92) (v := (10 : Int32)) hx hb dX10_both_92 (by decide) ?_
    refine bz_irem (pc := 94) hx hb dX10_both_94 (by decide) ?_
    refine lv_iload (pc := 95) hx hb dX10_both_95 (lv_at hl 1 rfl) ?_
    refine lv_iload (pc := 97) hx hb dX10_both_97 (lv_at hl 0 rfl) ?_
    obtain ⟨v31, M32, e30, h⟩ := ob2 h
    obtain ⟨fs33, hb34⟩ := (rX6_addRing e30)
    refine bz_callV1 (pc := 99) (As := [.int (rmI x1 ((10 : Int32))), .int v10, .int v17]) (rest := []) X hM hl.1 k_RX10_109 (ctX6_addRing l e30) rfl hb34 rfl rfl ⟨(Nat.le_of_ble_eq_true rfl), (Nat.le_of_ble_eq_true rfl)⟩ (Nat.le_of_ble_eq_true rfl) ⟨(Nat.le_of_ble_eq_true rfl), (Nat.le_of_ble_eq_true rfl)⟩ dX10_both_99 (fun H locs hM => ?_)
    refine lv_pop (pc := 102) hx hb dX10_both_102 rfl ?_
    refine lv_iinc (pc := 103) (v := (x3 + (1 : Int32))) (lv' := [(3, .int (x3 + (1 : Int32))), (5, .int v17), (4, .int v10), (0, .ref (pB P + x0)), (1, .int x1), (2, .int x2)]) hx hb dX10_both_103 hl (k := 5) rfl rfl (by decide) rfl (fun ls hl => ?_)
    refine lv_goto (pc := 106) (tgt := 48) hx hb dX10_both_106 (by decide) ?_
    exact hK48 _ _ _ _ _ h H locs ls hM (lv_sub hl [3, 4, 5, 0] rfl)
set_option maxHeartbeats 4000000 in
set_option maxRecDepth 100000 in
theorem wLX10_both_48 {p : Program} {l : Launch} {e : Env} {s : State} {m : MethodId} {args : Array Value} {below : List Frame} {meth : Method} {c : Code} {P : PT} {N : Nat}  {r9 : Int32} {M9 : Mm} (hX : Cy p s m args c meth cX10_both 6 RX10 "both" (some .int) P)   : ∀ (n : Nat) (M : Mm) (x0 : Nat) (x1 : Int32) (x2 : Int32) (x3 : Int32) , LX10_both_48 N n M x0 x1 x2 x3 = some (r9, M9) → Wq p l e s m args below meth c 3 0 (some (.int r9)) M9 6 P 0 48 [(0, .ref (pB P + x0)), (1, .int x1), (2, .int x2), (3, .int x3)] [] M := by
  intro n
  induction n with
  | zero => intro M x0 x1 x2 x3 h; cases h
  | succ n ih => intro M x0 x1 x2 x3 h; exact wBX10_both_48 hX ih M x0 x1 x2 x3 h
set_option maxHeartbeats 4000000 in
set_option maxRecDepth 100000 in
theorem wjX10_both_18 {p : Program} {l : Launch} {e : Env} {s : State} {m : MethodId} {args : Array Value} {below : List Frame} {meth : Method} {c : Code} {P : PT} {N : Nat}  {r9 : Int32} {M9 : Mm} (hX : Cy p s m args c meth cX10_both 6 RX10 "both" (some .int) P)   (M : Mm) (x0 : Nat)  (h : jX10_both_18 N M x0 = some (r9, M9)) : Wq p l e s m args below meth c 3 0 (some (.int r9)) M9 6 P 0 18 [(0, .ref (pB P + x0))] [] M := by
  unfold jX10_both_18 at h
  have hX0 := hX
  obtain ⟨X, hr, hlk, hnm⟩ := hX0
  have hx := X.1.1
  have hb := X.1.2.1
  intro H locs ls hM hl
  refine lv_aload_n (pc := 18) hx hb dX10_both_18 rfl (lv_at hl 0 rfl) ?_
  refine lv_iconst (pc := 19) (v := (1 : Int32)) hx hb dX10_both_19 (by decide) ?_
  obtain ⟨v2, M3, e1, h⟩ := ob2 h
  obtain ⟨fs4, hb5⟩ := (rX10_error e1)
  refine bz_callV1 (pc := 20) (As := [.int (1 : Int32)]) (rest := []) X hM hl.1 k_RX10_78 (ctX10_error l e1) rfl hb5 rfl rfl ⟨(Nat.le_of_ble_eq_true rfl), (Nat.le_of_ble_eq_true rfl)⟩ (Nat.le_of_ble_eq_true rfl) ⟨(Nat.le_of_ble_eq_true rfl), (Nat.le_of_ble_eq_true rfl)⟩ dX10_both_20 (fun H locs hM => ?_)
  obtain ⟨rfl, rfl⟩ := so2 h
  exact bz_iret (pc := 23) X hM hr hlk dX10_both_23 (Nat.le_of_ble_eq_true rfl) (Nat.le_of_ble_eq_true rfl)
set_option maxHeartbeats 4000000 in
set_option maxRecDepth 100000 in
theorem wX10_both {p : Program} {l : Launch} {e : Env} {s : State} {m : MethodId} {args : Array Value} {below : List Frame} {meth : Method} {c : Code} {P : PT} {N : Nat}  {r9 : Int32} {M9 : Mm} (hX : Cy p s m args c meth cX10_both 6 RX10 "both" (some .int) P)  (M : Mm) (a0 : Nat) (a1 : Int32) (a2 : Int32) (h : fX10_both N M a0 a1 a2 = some (r9, M9)) : Wq p l e s m args below meth c 3 0 (some (.int r9)) M9 6 P 0 0 [(0, .ref (pB P + a0)), (1, .int a1), (2, .int a2)] [] M := by
  unfold fX10_both at h
  obtain ⟨_, _, h⟩ := ob h
  have hX0 := hX
  obtain ⟨X, hr, hlk, hnm⟩ := hX0
  have hx := X.1.1
  have hb := X.1.2.1
  intro H locs ls hM hl
  refine lv_aload_n (pc := 0) hx hb dX10_both_0 rfl (lv_at hl 0 rfl) ?_
  refine lv_iload_n (pc := 1) hx hb dX10_both_1 rfl (lv_at hl 1 rfl) ?_
  obtain ⟨v2, e1, h⟩ := ob h
  obtain ⟨fs3, hb4⟩ := (rX10_isPair e1)
  refine bz_callV1 (pc := 2) (As := [.int a1]) (rest := []) X hM hl.1 k_RX10_211 (ctX10_isPair l e1) rfl hb4 rfl rfl ⟨(Nat.le_of_ble_eq_true rfl), (Nat.le_of_ble_eq_true rfl)⟩ (Nat.le_of_ble_eq_true rfl) ⟨(Nat.le_of_ble_eq_true rfl), (Nat.le_of_ble_eq_true rfl)⟩ dX10_both_2 (fun H locs hM => ?_)
  refine lv_if_eq (pc := 5) (tgt := 18) hx hb dX10_both_5 (by decide) (fun hc => ?_) (fun hc => ?_)
  · have h := if_t hc h
    exact wjX10_both_18 hX _ _ h H locs ls hM (lv_sub hl [0] rfl)
  · have h := if_f hc h
    refine lv_iload_n (pc := 8) hx hb dX10_both_8 rfl (lv_at hl 2 rfl) ?_
    refine lv_iconst (pc := 9) (v := (1 : Int32)) hx hb dX10_both_9 (by decide) ?_
    refine lv_bipush (pc := 10) (v := (10 : Int32)) hx hb dX10_both_10 (by decide) ?_
    obtain ⟨v6, e5, h⟩ := ob h
    refine bz_callS1 (pc := 12) (As := [.int a2, .int (1 : Int32), .int (10 : Int32)]) (rest := []) X hM hl.1 k_RX10_74 (ctX10_within l e5) rfl rfl ⟨(Nat.le_of_ble_eq_true rfl), (Nat.le_of_ble_eq_true rfl)⟩ (Nat.le_of_ble_eq_true rfl) ⟨(Nat.le_of_ble_eq_true rfl), (Nat.le_of_ble_eq_true rfl)⟩ dX10_both_12 (fun H locs hM => ?_)
    refine lv_if_ne (pc := 15) (tgt := 24) hx hb dX10_both_15 (by decide) (fun hc => ?_) (fun hc => ?_)
    · have h := if_f hc h
      refine lv_aload_n (pc := 24) hx hb dX10_both_24 rfl (lv_at hl 0 rfl) ?_
      obtain ⟨q7, e8, h⟩ := ob h
      refine bz_getQ (pc := 25) X hM fl_RX10_10 e8 dX10_both_25 ?_
      obtain ⟨q9, e10, h⟩ := ob h
      refine bz_getQ (pc := 28) X hM fl_RX10_118 e10 dX10_both_28 ?_
      obtain ⟨v12, e11, h⟩ := ob h
      obtain ⟨fs13, hb14⟩ := (rX3_room e11)
      refine bz_callV1 (pc := 31) (As := []) (rest := []) X hM hl.1 k_RX10_176 (ctX3_room l e11) rfl hb14 rfl rfl ⟨(Nat.le_of_ble_eq_true rfl), (Nat.le_of_ble_eq_true rfl)⟩ (Nat.le_of_ble_eq_true rfl) ⟨(Nat.le_of_ble_eq_true rfl), (Nat.le_of_ble_eq_true rfl)⟩ dX10_both_31 (fun H locs hM => ?_)
      refine lv_iconst (pc := 34) (v := (2 : Int32)) hx hb dX10_both_34 (by decide) ?_
      refine lv_iload_n (pc := 35) hx hb dX10_both_35 rfl (lv_at hl 2 rfl) ?_
      refine lv_imul (pc := 36) hx hb dX10_both_36 ?_
      refine lv_icmp_ge (pc := 37) (tgt := 46) hx hb dX10_both_37 (by decide) (fun hc => ?_) (fun hc => ?_)
      · have h := if_t hc h
        refine lv_iconst (pc := 46) (v := (0 : Int32)) hx hb dX10_both_46 (by decide) ?_
        refine lv_istore_n (pc := 47) (lv' := [(3, .int (0 : Int32)), (0, .ref (pB P + a0)), (1, .int a1), (2, .int a2)]) hx hb dX10_both_47 rfl hl (by decide) rfl (fun ls hl => ?_)
        exact wLX10_both_48 hX _ _ _ _ _ _ h H locs ls hM (lv_sub hl [1, 2, 3, 0] rfl)
      · have h := if_f hc h
        refine lv_aload_n (pc := 40) hx hb dX10_both_40 rfl (lv_at hl 0 rfl) ?_
        refine lv_iconst (pc := 41) (v := (4 : Int32)) hx hb dX10_both_41 (by decide) ?_
        obtain ⟨v16, M17, e15, h⟩ := ob2 h
        obtain ⟨fs18, hb19⟩ := (rX10_error e15)
        refine bz_callV1 (pc := 42) (As := [.int (4 : Int32)]) (rest := []) X hM hl.1 k_RX10_78 (ctX10_error l e15) rfl hb19 rfl rfl ⟨(Nat.le_of_ble_eq_true rfl), (Nat.le_of_ble_eq_true rfl)⟩ (Nat.le_of_ble_eq_true rfl) ⟨(Nat.le_of_ble_eq_true rfl), (Nat.le_of_ble_eq_true rfl)⟩ dX10_both_42 (fun H locs hM => ?_)
        obtain ⟨rfl, rfl⟩ := so2 h
        exact bz_iret (pc := 45) X hM hr hlk dX10_both_45 (Nat.le_of_ble_eq_true rfl) (Nat.le_of_ble_eq_true rfl)
    · have h := if_t hc h
      exact wjX10_both_18 hX _ _ h H locs ls hM (lv_sub hl [0] rfl)
theorem rX10_both {N : Nat} {M : Mm} {a0 : Nat} {a1 : Int32} {a2 : Int32} {r9 : Int32 × Mm} (h : fX10_both N M a0 a1 a2 = some r9) : ∃ fs, M[a0]? = some (.inr (10, fs)) := by
  unfold fX10_both at h
  obtain ⟨_, e1, _⟩ := ob h
  exact gC_spec e1
theorem ctX10_both (l : Launch) {P : PT} {N : Nat} {M : Mm} {a0 : Nat} {a1 : Int32} {a2 : Int32} {r9 : Int32} {M9 : Mm} (h : fX10_both N M a0 a1 a2 = some (r9, M9)) : Ct l yX10_both cX10_both 6 (some .int) 3 0 P [.ref (pB P + a0), .int a1, .int a2] M (some (.int r9)) M9 :=
  Ct.mk (by decide +kernel) (Nat.le_of_ble_eq_true rfl) (fun p e s m args below meth c hX => wX10_both hX M a0 a1 a2 h)
set_option maxHeartbeats 4000000 in
set_option maxRecDepth 100000 in
theorem wBX11_both__49 {p : Program} {l : Launch} {e : Env} {s : State} {m : MethodId} {args : Array Value} {below : List Frame} {meth : Method} {c : Code} {P : PT} {N : Nat} {K49 : Mm → Nat → Int32 → Int32 → Int32 → Option (Int32 × Mm)}  {r9 : Int32} {M9 : Mm} (hX : Cy p s m args c meth cX11_both_ 6 RX11 "both" (some .int) P)  (hK49 : ∀ (M : Mm) (x0 : Nat) (x1 : Int32) (x2 : Int32) (x3 : Int32), K49 M x0 x1 x2 x3 = some (r9, M9) → Wq p l e s m args below meth c 3 0 (some (.int r9)) M9 6 P 0 49 [(0, .ref (pB P + x0)), (1, .int x1), (2, .int x2), (3, .int x3)] [] M) (M : Mm) (x0 : Nat) (x1 : Int32) (x2 : Int32) (x3 : Int32)  (h : BX11_both__49 N K49 M x0 x1 x2 x3 = some (r9, M9)) : Wq p l e s m args below meth c 3 0 (some (.int r9)) M9 6 P 0 49 [(0, .ref (pB P + x0)), (1, .int x1), (2, .int x2), (3, .int x3)] [] M := by
  unfold BX11_both__49 at h
  have hX0 := hX
  obtain ⟨X, hr, hlk, hnm⟩ := hX0
  have hx := X.1.1
  have hb := X.1.2.1
  intro H locs ls hM hl
  refine lv_iload_n (pc := 49) hx hb dX11_both__49 rfl (lv_at hl 3 rfl) ?_
  refine lv_iload_n (pc := 50) hx hb dX11_both__50 rfl (lv_at hl 2 rfl) ?_
  refine lv_icmp_ge (pc := 51) (tgt := 106) hx hb dX11_both__51 (by decide) (fun hc => ?_) (fun hc => ?_)
  · have h := if_t hc h
    refine lv_aload_n (pc := 106) hx hb dX11_both__106 rfl (lv_at hl 0 rfl) ?_
    obtain ⟨q1, e2, h⟩ := ob h
    refine bz_getQ (pc := 107) X hM fl_RX11_9 e2 dX11_both__107 ?_
    refine lv_iconst (pc := 110) (v := (1 : Int32)) hx hb dX11_both__110 (by decide) ?_
    obtain ⟨v3, e4, h⟩ := ob h
    refine bz_iald (pc := 111) X hM e4 dX11_both__111 ?_
    obtain ⟨rfl, rfl⟩ := so2 h
    exact bz_iret (pc := 112) X hM hr hlk dX11_both__112 (Nat.le_of_ble_eq_true rfl) (Nat.le_of_ble_eq_true rfl)
  · have h := if_f hc h
    refine lv_aload_n (pc := 54) hx hb dX11_both__54 rfl (lv_at hl 0 rfl) ?_
    obtain ⟨v6, M7, e5, h⟩ := ob2 h
    obtain ⟨fs8, hb9⟩ := (rX11_draw e5)
    refine bz_callV1 (pc := 55) (As := []) (rest := []) X hM hl.1 k_RX11_316 (ctX11_draw l e5) rfl hb9 rfl rfl ⟨(Nat.le_of_ble_eq_true rfl), (Nat.le_of_ble_eq_true rfl)⟩ (Nat.le_of_ble_eq_true rfl) ⟨(Nat.le_of_ble_eq_true rfl), (Nat.le_of_ble_eq_true rfl)⟩ dX11_both__55 (fun H locs hM => ?_)
    refine lv_sipush (pc := 58) (v := (2400 : Int32)) hx hb dX11_both__58 (by decide) ?_
    refine bz_irem (pc := 61) hx hb dX11_both__61 (by decide) ?_
    refine lv_istore (pc := 62) (lv' := [(4, .int (rmI v6 ((2400 : Int32)))), (0, .ref (pB P + x0)), (1, .int x1), (2, .int x2), (3, .int x3)]) hx hb dX11_both__62 hl (by decide) rfl (fun ls hl => ?_)
    refine lv_iconst (pc := 64) (v := (1 : Int32)) hx hb dX11_both__64 (by decide) ?_
    refine lv_aload_n (pc := 65) hx hb dX11_both__65 rfl (lv_at hl 1 rfl) ?_
    obtain ⟨v11, M12, e10, h⟩ := ob2 h
    obtain ⟨fs13, hb14⟩ := (rX11_draw e10)
    refine bz_callV1 (pc := 66) (As := []) (rest := [.int (1 : Int32)]) X hM hl.1 k_RX11_316 (ctX11_draw l e10) rfl hb14 rfl rfl ⟨(Nat.le_of_ble_eq_true rfl), (Nat.le_of_ble_eq_true rfl)⟩ (Nat.le_of_ble_eq_true rfl) ⟨(Nat.le_of_ble_eq_true rfl), (Nat.le_of_ble_eq_true rfl)⟩ dX11_both__66 (fun H locs hM => ?_)
    refine lv_sipush (pc := 69) (v := (999 : Int32)) hx hb dX11_both__69 (by decide) ?_
    refine bz_irem (pc := 72) hx hb dX11_both__72 (by decide) ?_
    refine lv_iadd (pc := 73) hx hb dX11_both__73 ?_
    refine lv_istore (pc := 74) (lv' := [(5, .int ((1 : Int32) + (rmI v11 ((999 : Int32))))), (4, .int (rmI v6 ((2400 : Int32)))), (0, .ref (pB P + x0)), (1, .int x1), (2, .int x2), (3, .int x3)]) hx hb dX11_both__74 hl (by decide) rfl (fun ls hl => ?_)
    refine lv_aload_n (pc := 76) hx hb dX11_both__76 rfl (lv_at hl 2 rfl) ?_
    refine lv_iload_n (pc := 77) hx hb dX11_both__77 rfl (lv_at hl 3 rfl) ?_
    refine lv_bipush (pc := 78) (v := (10 : Int32)) hx hb dX11_both__78 (by decide) ?_
    refine lv_idiv (pc := 80) hx hb dX11_both__80 (by decide) ?_
    refine lv_iload (pc := 81) hx hb dX11_both__81 (lv_at hl 1 rfl) ?_
    refine lv_iload (pc := 83) hx hb dX11_both__83 (lv_at hl 0 rfl) ?_
    obtain ⟨M16, e15, h⟩ := ob h
    obtain ⟨fs17, hb18⟩ := (rX11_rings e15)
    refine bz_callV0 (pc := 85) (As := [.int (x1 / (10 : Int32)), .int (rmI v6 ((2400 : Int32))), .int ((1 : Int32) + (rmI v11 ((999 : Int32))))]) (rest := []) X hM hl.1 k_RX11_83 (ctX11_rings l e15) rfl hb18 rfl rfl ⟨(Nat.le_of_ble_eq_true rfl), (Nat.le_of_ble_eq_true rfl)⟩ (Nat.le_of_ble_eq_true rfl) ⟨(Nat.le_of_ble_eq_true rfl), (Nat.le_of_ble_eq_true rfl)⟩ dX11_both__85 (fun H locs hM => ?_)
    refine lv_aload_n (pc := 88) hx hb dX11_both__88 rfl (lv_at hl 2 rfl) ?_
    refine lv_iload_n (pc := 89) hx hb dX11_both__89 rfl (lv_at hl 3 rfl) ?_
    refine lv_bipush (pc := 90) (v := (10 : Int32)) hx hb dX11_both__90 (by decide) ?_
    refine bz_irem (pc := 92) hx hb dX11_both__92 (by decide) ?_
    refine lv_iload (pc := 93) hx hb dX11_both__93 (lv_at hl 1 rfl) ?_
    refine lv_iload (pc := 95) hx hb dX11_both__95 (lv_at hl 0 rfl) ?_
    obtain ⟨M20, e19, h⟩ := ob h
    obtain ⟨fs21, hb22⟩ := (rX11_rings e19)
    refine bz_callV0 (pc := 97) (As := [.int (rmI x1 ((10 : Int32))), .int (rmI v6 ((2400 : Int32))), .int ((1 : Int32) + (rmI v11 ((999 : Int32))))]) (rest := []) X hM hl.1 k_RX11_83 (ctX11_rings l e19) rfl hb22 rfl rfl ⟨(Nat.le_of_ble_eq_true rfl), (Nat.le_of_ble_eq_true rfl)⟩ (Nat.le_of_ble_eq_true rfl) ⟨(Nat.le_of_ble_eq_true rfl), (Nat.le_of_ble_eq_true rfl)⟩ dX11_both__97 (fun H locs hM => ?_)
    refine lv_iinc (pc := 100) (v := (x3 + (1 : Int32))) (lv' := [(3, .int (x3 + (1 : Int32))), (5, .int ((1 : Int32) + (rmI v11 ((999 : Int32))))), (4, .int (rmI v6 ((2400 : Int32)))), (0, .ref (pB P + x0)), (1, .int x1), (2, .int x2)]) hx hb dX11_both__100 hl (k := 5) rfl rfl (by decide) rfl (fun ls hl => ?_)
    refine lv_goto (pc := 103) (tgt := 49) hx hb dX11_both__103 (by decide) ?_
    exact hK49 _ _ _ _ _ h H locs ls hM (lv_sub hl [3, 4, 5, 0] rfl)
set_option maxHeartbeats 4000000 in
set_option maxRecDepth 100000 in
theorem wLX11_both__49 {p : Program} {l : Launch} {e : Env} {s : State} {m : MethodId} {args : Array Value} {below : List Frame} {meth : Method} {c : Code} {P : PT} {N : Nat}  {r9 : Int32} {M9 : Mm} (hX : Cy p s m args c meth cX11_both_ 6 RX11 "both" (some .int) P)   : ∀ (n : Nat) (M : Mm) (x0 : Nat) (x1 : Int32) (x2 : Int32) (x3 : Int32) , LX11_both__49 N n M x0 x1 x2 x3 = some (r9, M9) → Wq p l e s m args below meth c 3 0 (some (.int r9)) M9 6 P 0 49 [(0, .ref (pB P + x0)), (1, .int x1), (2, .int x2), (3, .int x3)] [] M := by
  intro n
  induction n with
  | zero => intro M x0 x1 x2 x3 h; cases h
  | succ n ih => intro M x0 x1 x2 x3 h; exact wBX11_both__49 hX ih M x0 x1 x2 x3 h
set_option maxHeartbeats 4000000 in
set_option maxRecDepth 100000 in
theorem wjX11_both__20 {p : Program} {l : Launch} {e : Env} {s : State} {m : MethodId} {args : Array Value} {below : List Frame} {meth : Method} {c : Code} {P : PT} {N : Nat}  {r9 : Int32} {M9 : Mm} (hX : Cy p s m args c meth cX11_both_ 6 RX11 "both" (some .int) P)   (M : Mm) (x0 : Nat)  (h : jX11_both__20 N M x0 = some (r9, M9)) : Wq p l e s m args below meth c 3 0 (some (.int r9)) M9 6 P 0 20 [(0, .ref (pB P + x0))] [] M := by
  unfold jX11_both__20 at h
  have hX0 := hX
  obtain ⟨X, hr, hlk, hnm⟩ := hX0
  have hx := X.1.1
  have hb := X.1.2.1
  intro H locs ls hM hl
  refine lv_aload_n (pc := 20) hx hb dX11_both__20 rfl (lv_at hl 0 rfl) ?_
  refine lv_iconst (pc := 21) (v := (1 : Int32)) hx hb dX11_both__21 (by decide) ?_
  obtain ⟨v2, M3, e1, h⟩ := ob2 h
  obtain ⟨fs4, hb5⟩ := (rX11_error e1)
  refine bz_callV1 (pc := 22) (As := [.int (1 : Int32)]) (rest := []) X hM hl.1 k_RX11_73 (ctX11_error l e1) rfl hb5 rfl rfl ⟨(Nat.le_of_ble_eq_true rfl), (Nat.le_of_ble_eq_true rfl)⟩ (Nat.le_of_ble_eq_true rfl) ⟨(Nat.le_of_ble_eq_true rfl), (Nat.le_of_ble_eq_true rfl)⟩ dX11_both__22 (fun H locs hM => ?_)
  obtain ⟨rfl, rfl⟩ := so2 h
  exact bz_iret (pc := 25) X hM hr hlk dX11_both__25 (Nat.le_of_ble_eq_true rfl) (Nat.le_of_ble_eq_true rfl)
set_option maxHeartbeats 4000000 in
set_option maxRecDepth 100000 in
theorem wX11_both_ {p : Program} {l : Launch} {e : Env} {s : State} {m : MethodId} {args : Array Value} {below : List Frame} {meth : Method} {c : Code} {P : PT} {N : Nat}  {r9 : Int32} {M9 : Mm} (hX : Cy p s m args c meth cX11_both_ 6 RX11 "both" (some .int) P)  (M : Mm) (a0 : Nat) (a1 : Int32) (a2 : Int32) (h : fX11_both_ N M a0 a1 a2 = some (r9, M9)) : Wq p l e s m args below meth c 3 0 (some (.int r9)) M9 6 P 0 0 [(0, .ref (pB P + a0)), (1, .int a1), (2, .int a2)] [] M := by
  unfold fX11_both_ at h
  obtain ⟨_, _, h⟩ := ob h
  have hX0 := hX
  obtain ⟨X, hr, hlk, hnm⟩ := hX0
  have hx := X.1.1
  have hb := X.1.2.1
  intro H locs ls hM hl
  refine lv_aload_n (pc := 0) hx hb dX11_both__0 rfl (lv_at hl 0 rfl) ?_
  refine lv_iload_n (pc := 1) hx hb dX11_both__1 rfl (lv_at hl 1 rfl) ?_
  obtain ⟨v2, e1, h⟩ := ob h
  obtain ⟨fs3, hb4⟩ := (rX11_isPair e1)
  refine bz_callV1 (pc := 2) (As := [.int a1]) (rest := []) X hM hl.1 k_RX11_131 (ctX11_isPair l e1) rfl hb4 rfl rfl ⟨(Nat.le_of_ble_eq_true rfl), (Nat.le_of_ble_eq_true rfl)⟩ (Nat.le_of_ble_eq_true rfl) ⟨(Nat.le_of_ble_eq_true rfl), (Nat.le_of_ble_eq_true rfl)⟩ dX11_both__2 (fun H locs hM => ?_)
  refine lv_if_eq (pc := 5) (tgt := 20) hx hb dX11_both__5 (by decide) (fun hc => ?_) (fun hc => ?_)
  · have h := if_t hc h
    exact wjX11_both__20 hX _ _ h H locs ls hM (lv_sub hl [0] rfl)
  · have h := if_f hc h
    refine lv_iload_n (pc := 8) hx hb dX11_both__8 rfl (lv_at hl 2 rfl) ?_
    refine lv_i2l (pc := 9) (v := ((a2).toInt64)) hx hb dX11_both__9 rfl ?_
    refine lv_lconst (pc := 10) (v := (1 : Int64)) hx hb dX11_both__10 (by decide) ?_
    refine lv_ldc2 (pc := 11) (v := (10 : Int64)) hx hb X.1.2.2.2.1 (X.1.2.2.2.2 _ g_1626) dX11_both__11 ?_
    obtain ⟨v6, e5, h⟩ := ob h
    refine bz_callS1 (pc := 14) (As := [.long ((a2).toInt64), .long (1 : Int64), .long (10 : Int64)]) (rest := []) X hM hl.1 k_RX11_57 (ctX11_in l e5) rfl rfl ⟨(Nat.le_of_ble_eq_true rfl), (Nat.le_of_ble_eq_true rfl)⟩ (Nat.le_of_ble_eq_true rfl) ⟨(Nat.le_of_ble_eq_true rfl), (Nat.le_of_ble_eq_true rfl)⟩ dX11_both__14 (fun H locs hM => ?_)
    refine lv_if_ne (pc := 17) (tgt := 26) hx hb dX11_both__17 (by decide) (fun hc => ?_) (fun hc => ?_)
    · have h := if_f hc h
      refine lv_aload_n (pc := 26) hx hb dX11_both__26 rfl (lv_at hl 0 rfl) ?_
      obtain ⟨q7, e8, h⟩ := ob h
      refine bz_getQ (pc := 27) X hM fl_RX11_9 e8 dX11_both__27 ?_
      refine lv_iconst (pc := 30) (v := (1 : Int32)) hx hb dX11_both__30 (by decide) ?_
      obtain ⟨v9, e10, h⟩ := ob h
      refine bz_iald (pc := 31) X hM e10 dX11_both__31 ?_
      refine lv_iconst (pc := 32) (v := (2 : Int32)) hx hb dX11_both__32 (by decide) ?_
      refine lv_iload_n (pc := 33) hx hb dX11_both__33 rfl (lv_at hl 2 rfl) ?_
      refine lv_imul (pc := 34) hx hb dX11_both__34 ?_
      refine lv_iadd (pc := 35) hx hb dX11_both__35 ?_
      refine lv_bipush (pc := 36) (v := (96 : Int32)) hx hb dX11_both__36 (by decide) ?_
      refine lv_icmp_le (pc := 38) (tgt := 47) hx hb dX11_both__38 (by decide) (fun hc => ?_) (fun hc => ?_)
      · have h := if_t hc h
        refine lv_iconst (pc := 47) (v := (0 : Int32)) hx hb dX11_both__47 (by decide) ?_
        refine lv_istore_n (pc := 48) (lv' := [(3, .int (0 : Int32)), (0, .ref (pB P + a0)), (1, .int a1), (2, .int a2)]) hx hb dX11_both__48 rfl hl (by decide) rfl (fun ls hl => ?_)
        exact wLX11_both__49 hX _ _ _ _ _ _ h H locs ls hM (lv_sub hl [1, 2, 3, 0] rfl)
      · have h := if_f hc h
        refine lv_aload_n (pc := 41) hx hb dX11_both__41 rfl (lv_at hl 0 rfl) ?_
        refine lv_iconst (pc := 42) (v := (4 : Int32)) hx hb dX11_both__42 (by decide) ?_
        obtain ⟨v12, M13, e11, h⟩ := ob2 h
        obtain ⟨fs14, hb15⟩ := (rX11_error e11)
        refine bz_callV1 (pc := 43) (As := [.int (4 : Int32)]) (rest := []) X hM hl.1 k_RX11_73 (ctX11_error l e11) rfl hb15 rfl rfl ⟨(Nat.le_of_ble_eq_true rfl), (Nat.le_of_ble_eq_true rfl)⟩ (Nat.le_of_ble_eq_true rfl) ⟨(Nat.le_of_ble_eq_true rfl), (Nat.le_of_ble_eq_true rfl)⟩ dX11_both__43 (fun H locs hM => ?_)
        obtain ⟨rfl, rfl⟩ := so2 h
        exact bz_iret (pc := 46) X hM hr hlk dX11_both__46 (Nat.le_of_ble_eq_true rfl) (Nat.le_of_ble_eq_true rfl)
    · have h := if_t hc h
      exact wjX11_both__20 hX _ _ h H locs ls hM (lv_sub hl [0] rfl)
theorem rX11_both_ {N : Nat} {M : Mm} {a0 : Nat} {a1 : Int32} {a2 : Int32} {r9 : Int32 × Mm} (h : fX11_both_ N M a0 a1 a2 = some r9) : ∃ fs, M[a0]? = some (.inr (11, fs)) := by
  unfold fX11_both_ at h
  obtain ⟨_, e1, _⟩ := ob h
  exact gC_spec e1
theorem ctX11_both_ (l : Launch) {P : PT} {N : Nat} {M : Mm} {a0 : Nat} {a1 : Int32} {a2 : Int32} {r9 : Int32} {M9 : Mm} (h : fX11_both_ N M a0 a1 a2 = some (r9, M9)) : Ct l yX11_both_ cX11_both_ 6 (some .int) 3 0 P [.ref (pB P + a0), .int a1, .int a2] M (some (.int r9)) M9 :=
  Ct.mk (by decide +kernel) (Nat.le_of_ble_eq_true rfl) (fun p e s m args below meth c hX => wX11_both_ hX M a0 a1 a2 h)
set_option maxHeartbeats 4000000 in
set_option maxRecDepth 100000 in
theorem wjX9_bodyFrom_51 {p : Program} {l : Launch} {e : Env} {s : State} {m : MethodId} {args : Array Value} {below : List Frame} {meth : Method} {c : Code} {P : PT} {N : Nat} {K4 : Mm → Int32 → Int32 → Int32 → Option (Int32)}  {r9 : Int32} (hX : Cy p s m args c meth cX9_bodyFrom 5 RX9 "bodyFrom" (some .int) P)  (hK4 : ∀ (M : Mm) (x1 : Int32) (x2 : Int32) (x3 : Int32), K4 M x1 x2 x3 = some r9 → Wq p l e s m args below meth c 1 0 (some (.int r9)) M 5 P 0 4 [(1, .int x1), (2, .int x2), (3, .int x3)] [] M) (M : Mm) (x1 : Int32) (x2 : Int32) (x3 : Int32)  (h : jX9_bodyFrom_51 N K4 M x1 x2 x3 = some r9) : Wq p l e s m args below meth c 1 0 (some (.int r9)) M 5 P 0 51 [(1, .int x1), (2, .int x2), (3, .int x3)] [] M := by
  unfold jX9_bodyFrom_51 at h
  have hX0 := hX
  obtain ⟨X, hr, hlk, hnm⟩ := hX0
  have hx := X.1.1
  have hb := X.1.2.1
  intro H locs ls hM hl
  refine lv_iload_n (pc := 51) hx hb dX9_bodyFrom_51 rfl (lv_at hl 1 rfl) ?_
  obtain ⟨v2, e1, h⟩ := ob h
  refine bz_callS1 (pc := 52) (As := [.int x2]) (rest := []) X hM hl.1 k_RX9_52 (ctX0_kindAbove l e1) rfl rfl ⟨(Nat.le_of_ble_eq_true rfl), (Nat.le_of_ble_eq_true rfl)⟩ (Nat.le_of_ble_eq_true rfl) ⟨(Nat.le_of_ble_eq_true rfl), (Nat.le_of_ble_eq_true rfl)⟩ dX9_bodyFrom_52 (fun H locs hM => ?_)
  refine lv_istore_n (pc := 55) (lv' := [(2, .int v2), (1, .int x1), (3, .int x3)]) hx hb dX9_bodyFrom_55 rfl hl (by decide) rfl (fun ls hl => ?_)
  refine lv_iinc (pc := 56) (v := (x3 + (1 : Int32))) (lv' := [(3, .int (x3 + (1 : Int32))), (2, .int v2), (1, .int x1)]) hx hb dX9_bodyFrom_56 hl (k := 2) rfl rfl (by decide) rfl (fun ls hl => ?_)
  refine lv_goto (pc := 59) (tgt := 4) hx hb dX9_bodyFrom_59 (by decide) ?_
  exact hK4 _ _ _ _ h H locs ls hM (lv_sub hl [2, 1, 0] rfl)
set_option maxHeartbeats 4000000 in
set_option maxRecDepth 100000 in
theorem wBX9_bodyFrom_4 {p : Program} {l : Launch} {e : Env} {s : State} {m : MethodId} {args : Array Value} {below : List Frame} {meth : Method} {c : Code} {P : PT} {N : Nat} {K4 : Mm → Int32 → Int32 → Int32 → Option (Int32)}  {r9 : Int32} (hX : Cy p s m args c meth cX9_bodyFrom 5 RX9 "bodyFrom" (some .int) P)  (hK4 : ∀ (M : Mm) (x1 : Int32) (x2 : Int32) (x3 : Int32), K4 M x1 x2 x3 = some r9 → Wq p l e s m args below meth c 1 0 (some (.int r9)) M 5 P 0 4 [(1, .int x1), (2, .int x2), (3, .int x3)] [] M) (M : Mm) (x1 : Int32) (x2 : Int32) (x3 : Int32)  (h : BX9_bodyFrom_4 N K4 M x1 x2 x3 = some r9) : Wq p l e s m args below meth c 1 0 (some (.int r9)) M 5 P 0 4 [(1, .int x1), (2, .int x2), (3, .int x3)] [] M := by
  unfold BX9_bodyFrom_4 at h
  have hX0 := hX
  obtain ⟨X, hr, hlk, hnm⟩ := hX0
  have hx := X.1.1
  have hb := X.1.2.1
  intro H locs ls hM hl
  refine lv_iload_n (pc := 4) hx hb dX9_bodyFrom_4 rfl (lv_at hl 2 rfl) ?_
  refine lv_bipush (pc := 5) (v := (8 : Int32)) hx hb dX9_bodyFrom_5 (by decide) ?_
  refine lv_icmp_ge (pc := 7) (tgt := 62) hx hb dX9_bodyFrom_7 (by decide) (fun hc => ?_) (fun hc => ?_)
  · have h := if_t hc h
    refine lv_iconst (pc := 62) (v := (0 : Int32)) hx hb dX9_bodyFrom_62 (by decide) ?_
    obtain rfl := so1 h
    exact bz_iret (pc := 63) X hM hr hlk dX9_bodyFrom_63 (Nat.le_of_ble_eq_true rfl) (Nat.le_of_ble_eq_true rfl)
  · have h := if_f hc h
    refine lv_iload_n (pc := 10) hx hb dX9_bodyFrom_10 rfl (lv_at hl 1 rfl) ?_
    refine lv_if_lt (pc := 11) (tgt := 62) hx hb dX9_bodyFrom_11 (by decide) (fun hc => ?_) (fun hc => ?_)
    · have h := if_t hc h
      refine lv_iconst (pc := 62) (v := (0 : Int32)) hx hb dX9_bodyFrom_62 (by decide) ?_
      obtain rfl := so1 h
      exact bz_iret (pc := 63) X hM hr hlk dX9_bodyFrom_63 (Nat.le_of_ble_eq_true rfl) (Nat.le_of_ble_eq_true rfl)
    · have h := if_f hc h
      refine lv_iconst (pc := 14) (v := (4 : Int32)) hx hb dX9_bodyFrom_14 (by decide) ?_
      refine lv_iload_n (pc := 15) hx hb dX9_bodyFrom_15 rfl (lv_at hl 1 rfl) ?_
      refine lv_imul (pc := 16) hx hb dX9_bodyFrom_16 ?_
      refine lv_iload_n (pc := 17) hx hb dX9_bodyFrom_17 rfl (lv_at hl 0 rfl) ?_
      refine lv_iadd (pc := 18) hx hb dX9_bodyFrom_18 ?_
      refine lv_istore (pc := 19) (lv' := [(4, .int (((4 : Int32) * x2) + x1)), (1, .int x1), (2, .int x2), (3, .int x3)]) hx hb dX9_bodyFrom_19 hl (by decide) rfl (fun ls hl => ?_)
      refine lv_iload (pc := 21) hx hb dX9_bodyFrom_21 (lv_at hl 0 rfl) ?_
      refine lv_if_lt (pc := 23) (tgt := 51) hx hb dX9_bodyFrom_23 (by decide) (fun hc => ?_) (fun hc => ?_)
      · have h := if_t hc h
        exact wjX9_bodyFrom_51 hX hK4 _ _ _ _ h H locs ls hM (lv_sub hl [1, 2, 3] rfl)
      · have h := if_f hc h
        refine lv_iload (pc := 26) hx hb dX9_bodyFrom_26 (lv_at hl 0 rfl) ?_
        refine bz_bodies (pc := 28) X hM g_1104 dX9_bodyFrom_28 ?_
        refine bz_blen (pc := 31) X hM dX9_bodyFrom_31 ?_
        refine lv_icmp_ge (pc := 32) (tgt := 51) hx hb dX9_bodyFrom_32 (by decide) (fun hc => ?_) (fun hc => ?_)
        · have h := if_t hc h
          exact wjX9_bodyFrom_51 hX hK4 _ _ _ _ h H locs ls hM (lv_sub hl [1, 2, 3] rfl)
        · have h := if_f hc h
          refine bz_bodies (pc := 35) X hM g_1104 dX9_bodyFrom_35 ?_
          refine lv_iload (pc := 38) hx hb dX9_bodyFrom_38 (lv_at hl 0 rfl) ?_
          obtain ⟨v1, e2, h⟩ := ob h
          refine bz_bald (pc := 40) X hM e2 dX9_bodyFrom_40 ?_
          refine lv_if_eq (pc := 41) (tgt := 51) hx hb dX9_bodyFrom_41 (by decide) (fun hc => ?_) (fun hc => ?_)
          · have h := if_t hc h
            exact wjX9_bodyFrom_51 hX hK4 _ _ _ _ h H locs ls hM (lv_sub hl [1, 2, 3] rfl)
          · have h := if_f hc h
            refine bz_bodies (pc := 44) X hM g_1104 dX9_bodyFrom_44 ?_
            refine lv_iload (pc := 47) hx hb dX9_bodyFrom_47 (lv_at hl 0 rfl) ?_
            obtain ⟨v3, e4, h⟩ := ob h
            refine bz_bald (pc := 49) X hM e4 dX9_bodyFrom_49 ?_
            obtain rfl := so1 h
            exact bz_iret (pc := 50) X hM hr hlk dX9_bodyFrom_50 (Nat.le_of_ble_eq_true rfl) (Nat.le_of_ble_eq_true rfl)
set_option maxHeartbeats 4000000 in
set_option maxRecDepth 100000 in
theorem wLX9_bodyFrom_4 {p : Program} {l : Launch} {e : Env} {s : State} {m : MethodId} {args : Array Value} {below : List Frame} {meth : Method} {c : Code} {P : PT} {N : Nat}  {r9 : Int32} (hX : Cy p s m args c meth cX9_bodyFrom 5 RX9 "bodyFrom" (some .int) P)   : ∀ (n : Nat) (M : Mm) (x1 : Int32) (x2 : Int32) (x3 : Int32) , LX9_bodyFrom_4 N n M x1 x2 x3 = some r9 → Wq p l e s m args below meth c 1 0 (some (.int r9)) M 5 P 0 4 [(1, .int x1), (2, .int x2), (3, .int x3)] [] M := by
  intro n
  induction n with
  | zero => intro M x1 x2 x3 h; cases h
  | succ n ih => intro M x1 x2 x3 h; exact wBX9_bodyFrom_4 hX ih M x1 x2 x3 h
set_option maxHeartbeats 4000000 in
set_option maxRecDepth 100000 in
theorem wX9_bodyFrom {p : Program} {l : Launch} {e : Env} {s : State} {m : MethodId} {args : Array Value} {below : List Frame} {meth : Method} {c : Code} {P : PT} {N : Nat}  {r9 : Int32} (hX : Cy p s m args c meth cX9_bodyFrom 5 RX9 "bodyFrom" (some .int) P)  (M : Mm) (a0 : Int32) (a1 : Int32) (h : fX9_bodyFrom N M a0 a1 = some r9) : Wq p l e s m args below meth c 1 0 (some (.int r9)) M 5 P 0 0 [(0, .int a0), (1, .int a1)] [] M := by
  unfold fX9_bodyFrom at h
  have hX0 := hX
  obtain ⟨X, hr, hlk, hnm⟩ := hX0
  have hx := X.1.1
  have hb := X.1.2.1
  intro H locs ls hM hl
  refine lv_iload_n (pc := 0) hx hb dX9_bodyFrom_0 rfl (lv_at hl 0 rfl) ?_
  refine lv_istore_n (pc := 1) (lv' := [(2, .int a0), (0, .int a0), (1, .int a1)]) hx hb dX9_bodyFrom_1 rfl hl (by decide) rfl (fun ls hl => ?_)
  refine lv_iconst (pc := 2) (v := (0 : Int32)) hx hb dX9_bodyFrom_2 (by decide) ?_
  refine lv_istore_n (pc := 3) (lv' := [(3, .int (0 : Int32)), (2, .int a0), (0, .int a0), (1, .int a1)]) hx hb dX9_bodyFrom_3 rfl hl (by decide) rfl (fun ls hl => ?_)
  exact wLX9_bodyFrom_4 hX _ _ _ _ _ h H locs ls hM (lv_sub hl [3, 1, 0] rfl)
theorem ctX9_bodyFrom (l : Launch) {P : PT} {N : Nat} {M : Mm} {a0 : Int32} {a1 : Int32} {r9 : Int32} (h : fX9_bodyFrom N M a0 a1 = some r9) : Ct l yX9_bodyFrom cX9_bodyFrom 5 (some .int) 1 0 P [.int a0, .int a1] M (some (.int r9)) M :=
  Ct.mk (by decide +kernel) (Nat.le_of_ble_eq_true rfl) (fun p e s m args below meth c hX => wX9_bodyFrom hX M a0 a1 h)
