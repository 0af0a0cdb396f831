set_option maxHeartbeats 4000000 in
set_option maxRecDepth 100000 in
theorem wBX11_common_6 {p : Program} {l : Launch} {e : Env} {s : State} {m : MethodId} {args : Array Value} {below : List Frame} {meth : Method} {c : Code} {P : PT} {N : Nat} {K6 : Mm → Int64 → Int64 → Option (Int64)}  {r9 : Int64} (hX : Cy p s m args c meth cX11_common 10 RX11 "common" (some .long) P)  (hK6 : ∀ (M : Mm) (x4 : Int64) (x6 : Int64), K6 M x4 x6 = some r9 → Wq p l e s m args below meth c 0 0 (some (.long r9)) M 10 P 0 6 [(4, .long x4), (6, .long x6)] [] M) (M : Mm) (x4 : Int64) (x6 : Int64)  (h : BX11_common_6 N K6 M x4 x6 = some r9) : Wq p l e s m args below meth c 0 0 (some (.long r9)) M 10 P 0 6 [(4, .long x4), (6, .long x6)] [] M := by
  unfold BX11_common_6 at h
  have hX0 := hX
  obtain ⟨X, hr, hlk, hnm⟩ := hX0
  have hx := X.1.1
  have hb := X.1.2.1
  intro H locs ls hM hl
  refine lv_lload (pc := 6) hx hb dX11_common_6 (lv_at hl 1 rfl) ?_
  refine lv_lconst (pc := 8) (v := (0 : Int64)) hx hb dX11_common_8 (by decide) ?_
  refine W.lcmp (pc := 9) hx hb dX11_common_9 ?_
  refine lv_if_eq (pc := 10) (tgt := 31) hx hb dX11_common_10 (by decide) (fun hc => ?_) (fun hc => ?_)
  · have h := if_t hc h
    refine lv_lload (pc := 31) hx hb dX11_common_31 (lv_at hl 0 rfl) ?_
    obtain rfl := so1 h
    exact bz_lret (pc := 33) X hM hr hlk dX11_common_33 (Nat.le_of_ble_eq_true rfl) (Nat.le_of_ble_eq_true rfl)
  · have h := if_f hc h
    refine lv_lload (pc := 13) hx hb dX11_common_13 (lv_at hl 0 rfl) ?_
    refine lv_lload (pc := 15) hx hb dX11_common_15 (lv_at hl 1 rfl) ?_
    obtain ⟨v1, e2, h⟩ := ob h
    refine bz_lmod (pc := 17) hx hb e2 dX11_common_17 ?_
    refine lv_lstore (pc := 18) (lv' := [(8, .long v1), (4, .long x4), (6, .long x6)]) hx hb dX11_common_18 hl (by decide) rfl (fun ls hl => ?_)
    refine lv_lload (pc := 20) hx hb dX11_common_20 (lv_at hl 2 rfl) ?_
    refine lv_lstore (pc := 22) (lv' := [(4, .long x6), (8, .long v1), (6, .long x6)]) hx hb dX11_common_22 hl (by decide) rfl (fun ls hl => ?_)
    refine lv_lload (pc := 24) hx hb dX11_common_24 (lv_at hl 1 rfl) ?_
    refine lv_lstore (pc := 26) (lv' := [(6, .long v1), (4, .long x6), (8, .long v1)]) hx hb dX11_common_26 hl (by decide) rfl (fun ls hl => ?_)
    refine lv_goto (pc := 28) (tgt := 6) hx hb dX11_common_28 (by decide) ?_
    exact hK6 _ _ _ h H locs ls hM (lv_sub hl [1, 0] rfl)
set_option maxHeartbeats 4000000 in
set_option maxRecDepth 100000 in
theorem wLX11_common_6 {p : Program} {l : Launch} {e : Env} {s : State} {m : MethodId} {args : Array Value} {below : List Frame} {meth : Method} {c : Code} {P : PT} {N : Nat}  {r9 : Int64} (hX : Cy p s m args c meth cX11_common 10 RX11 "common" (some .long) P)   : ∀ (n : Nat) (M : Mm) (x4 : Int64) (x6 : Int64) , LX11_common_6 N n M x4 x6 = some r9 → Wq p l e s m args below meth c 0 0 (some (.long r9)) M 10 P 0 6 [(4, .long x4), (6, .long x6)] [] M := by
  intro n
  induction n with
  | zero => intro M x4 x6 h; cases h
  | succ n ih => intro M x4 x6 h; exact wBX11_common_6 hX ih M x4 x6 h
set_option maxHeartbeats 4000000 in
set_option maxRecDepth 100000 in
theorem wX11_common {p : Program} {l : Launch} {e : Env} {s : State} {m : MethodId} {args : Array Value} {below : List Frame} {meth : Method} {c : Code} {P : PT} {N : Nat}  {r9 : Int64} (hX : Cy p s m args c meth cX11_common 10 RX11 "common" (some .long) P)  (M : Mm) (a0 : Int64) (a2 : Int64) (h : fX11_common N M a0 a2 = some r9) : Wq p l e s m args below meth c 0 0 (some (.long r9)) M 10 P 0 0 [(0, .long a0), (2, .long a2)] [] M := by
  unfold fX11_common at h
  have hX0 := hX
  obtain ⟨X, hr, hlk, hnm⟩ := hX0
  have hx := X.1.1
  have hb := X.1.2.1
  intro H locs ls hM hl
  refine lv_lload_n (pc := 0) hx hb dX11_common_0 rfl (lv_at hl 0 rfl) ?_
  refine lv_lstore (pc := 1) (lv' := [(4, .long a0), (0, .long a0), (2, .long a2)]) hx hb dX11_common_1 hl (by decide) rfl (fun ls hl => ?_)
  refine lv_lload_n (pc := 3) hx hb dX11_common_3 rfl (lv_at hl 2 rfl) ?_
  refine lv_lstore (pc := 4) (lv' := [(6, .long a2), (4, .long a0), (0, .long a0), (2, .long a2)]) hx hb dX11_common_4 hl (by decide) rfl (fun ls hl => ?_)
  exact wLX11_common_6 hX _ _ _ _ h H locs ls hM (lv_sub hl [1, 0] rfl)
theorem ctX11_common (l : Launch) {P : PT} {N : Nat} {M : Mm} {a0 : Int64} {a2 : Int64} {r9 : Int64} (h : fX11_common N M a0 a2 = some r9) : Ct l yX11_common cX11_common 10 (some .long) 0 0 P [.long a0, .long a2] M (some (.long r9)) M :=
  Ct.mk (by decide +kernel) (Nat.le_of_ble_eq_true rfl) (fun p e s m args below meth c hX => wX11_common hX M a0 a2 h)
set_option maxHeartbeats 4000000 in
set_option maxRecDepth 100000 in
theorem wX11_part {p : Program} {l : Launch} {e : Env} {s : State} {m : MethodId} {args : Array Value} {below : List Frame} {meth : Method} {c : Code} {P : PT} {N : Nat}  {r9 : Int32} (hX : Cy p s m args c meth cX11_part 4 RX11 "part" (some .int) P)  (M : Mm) (a0 : Int32) (a1 : Int32) (a2 : Int32) (h : fX11_part N M a0 a1 a2 = some r9) : Wq p l e s m args below meth c 1 0 (some (.int r9)) M 4 P 0 0 [(0, .int a0), (1, .int a1), (2, .int a2)] [] M := by
  unfold fX11_part at h
  have hX0 := hX
  obtain ⟨X, hr, hlk, hnm⟩ := hX0
  have hx := X.1.1
  have hb := X.1.2.1
  intro H locs ls hM hl
  refine lv_iload_n (pc := 0) hx hb dX11_part_0 rfl (lv_at hl 0 rfl) ?_
  refine lv_i2l (pc := 1) (v := ((a0).toInt64)) hx hb dX11_part_1 rfl ?_
  refine lv_iload_n (pc := 2) hx hb dX11_part_2 rfl (lv_at hl 1 rfl) ?_
  refine lv_i2l (pc := 3) (v := ((a1).toInt64)) hx hb dX11_part_3 rfl ?_
  obtain ⟨v2, e1, h⟩ := ob h
  refine bz_callS1 (pc := 4) (As := [.long ((a0).toInt64), .long ((a1).toInt64)]) (rest := []) X hM hl.1 k_RX11_249 (ctX11_common l e1) rfl rfl ⟨(Nat.le_of_ble_eq_true rfl), (Nat.le_of_ble_eq_true rfl)⟩ (Nat.le_of_ble_eq_true rfl) ⟨(Nat.le_of_ble_eq_true rfl), (Nat.le_of_ble_eq_true rfl)⟩ dX11_part_4 (fun H locs hM => ?_)
  refine lv_l2i (pc := 7) (v := ((v2).toInt32)) hx hb dX11_part_7 rfl ?_
  refine lv_istore_n (pc := 8) (lv' := [(3, .int ((v2).toInt32)), (0, .int a0), (1, .int a1), (2, .int a2)]) hx hb dX11_part_8 rfl hl (by decide) rfl (fun ls hl => ?_)
  refine lv_iload_n (pc := 9) hx hb dX11_part_9 rfl (lv_at hl 3 rfl) ?_
  refine lv_if_ne (pc := 10) (tgt := 19) hx hb dX11_part_10 (by decide) (fun hc => ?_) (fun hc => ?_)
  · have h := if_f hc h
    refine lv_iload_n (pc := 19) hx hb dX11_part_19 rfl (lv_at hl 2 rfl) ?_
    refine lv_iload_n (pc := 20) hx hb dX11_part_20 rfl (lv_at hl 0 rfl) ?_
    obtain ⟨v3, e4, h⟩ := ob h
    refine bz_idiv (pc := 21) hx hb e4 dX11_part_21 ?_
    obtain rfl := so1 h
    exact bz_iret (pc := 22) X hM hr hlk dX11_part_22 (Nat.le_of_ble_eq_true rfl) (Nat.le_of_ble_eq_true rfl)
  · have h := if_t hc h
    refine lv_iload_n (pc := 13) hx hb dX11_part_13 rfl (lv_at hl 1 rfl) ?_
    refine lv_iload_n (pc := 14) hx hb dX11_part_14 rfl (lv_at hl 0 rfl) ?_
    obtain ⟨v5, e6, h⟩ := ob h
    refine bz_idiv (pc := 15) hx hb e6 dX11_part_15 ?_
    refine lv_goto (pc := 16) (tgt := 22) hx hb dX11_part_16 (by decide) ?_
    obtain rfl := so1 h
    exact bz_iret (pc := 22) X hM hr hlk dX11_part_22 (Nat.le_of_ble_eq_true rfl) (Nat.le_of_ble_eq_true rfl)
theorem ctX11_part (l : Launch) {P : PT} {N : Nat} {M : Mm} {a0 : Int32} {a1 : Int32} {a2 : Int32} {r9 : Int32} (h : fX11_part N M a0 a1 a2 = some r9) : Ct l yX11_part cX11_part 4 (some .int) 1 0 P [.int a0, .int a1, .int a2] M (some (.int r9)) M :=
  Ct.mk (by decide +kernel) (Nat.le_of_ble_eq_true rfl) (fun p e s m args below meth c hX => wX11_part hX M a0 a1 a2 h)
set_option maxHeartbeats 4000000 in
set_option maxRecDepth 100000 in
theorem wBX11_chance_42 {p : Program} {l : Launch} {e : Env} {s : State} {m : MethodId} {args : Array Value} {below : List Frame} {meth : Method} {c : Code} {P : PT} {N : Nat} {K42 : Mm → Nat → Int32 → Int32 → Int32 → Int32 → Int32 → Int32 → Option (Int32 × Mm)}  {r9 : Int32} {M9 : Mm} (hX : Cy p s m args c meth cX11_chance 7 RX11 "chance" (some .int) P)  (hK42 : ∀ (M : Mm) (x0 : Nat) (x1 : Int32) (x2 : Int32) (x3 : Int32) (x4 : Int32) (x5 : Int32) (x6 : Int32), K42 M x0 x1 x2 x3 x4 x5 x6 = some (r9, M9) → Wq p l e s m args below meth c 6 0 (some (.int r9)) M9 7 P 0 42 [(0, .ref (pB P + x0)), (1, .int x1), (2, .int x2), (3, .int x3), (4, .int x4), (5, .int x5), (6, .int x6)] [] M) (M : Mm) (x0 : Nat) (x1 : Int32) (x2 : Int32) (x3 : Int32) (x4 : Int32) (x5 : Int32) (x6 : Int32)  (h : BX11_chance_42 N K42 M x0 x1 x2 x3 x4 x5 x6 = some (r9, M9)) : Wq p l e s m args below meth c 6 0 (some (.int r9)) M9 7 P 0 42 [(0, .ref (pB P + x0)), (1, .int x1), (2, .int x2), (3, .int x3), (4, .int x4), (5, .int x5), (6, .int x6)] [] M := by
  unfold BX11_chance_42 at h
  have hX0 := hX
  obtain ⟨X, hr, hlk, hnm⟩ := hX0
  have hx := X.1.1
  have hb := X.1.2.1
  intro H locs ls hM hl
  refine lv_iload (pc := 42) hx hb dX11_chance_42 (lv_at hl 6 rfl) ?_
  refine lv_iload_n (pc := 44) hx hb dX11_chance_44 rfl (lv_at hl 2 rfl) ?_
  refine lv_icmp_gt (pc := 45) (tgt := 89) hx hb dX11_chance_45 (by decide) (fun hc => ?_) (fun hc => ?_)
  · have h := if_t hc h
    refine lv_iload (pc := 89) hx hb dX11_chance_89 (lv_at hl 5 rfl) ?_
    refine lv_iload_n (pc := 91) hx hb dX11_chance_91 rfl (lv_at hl 2 rfl) ?_
    refine lv_iload_n (pc := 92) hx hb dX11_chance_92 rfl (lv_at hl 3 rfl) ?_
    obtain ⟨v2, e1, h⟩ := ob h
    refine bz_callS1 (pc := 93) (As := [.int x5, .int x2, .int x3]) (rest := []) X hM hl.1 k_RX11_258 (ctX11_part l e1) rfl rfl ⟨(Nat.le_of_ble_eq_true rfl), (Nat.le_of_ble_eq_true rfl)⟩ (Nat.le_of_ble_eq_true rfl) ⟨(Nat.le_of_ble_eq_true rfl), (Nat.le_of_ble_eq_true rfl)⟩ dX11_chance_93 (fun H locs hM => ?_)
    obtain ⟨rfl, rfl⟩ := so2 h
    exact bz_iret (pc := 96) X hM hr hlk dX11_chance_96 (Nat.le_of_ble_eq_true rfl) (Nat.le_of_ble_eq_true rfl)
  · have h := if_f hc h
    refine lv_iload (pc := 48) hx hb dX11_chance_48 (lv_at hl 5 rfl) ?_
    refine lv_aload_n (pc := 50) hx hb dX11_chance_50 rfl (lv_at hl 0 rfl) ?_
    refine lv_iload_n (pc := 51) hx hb dX11_chance_51 rfl (lv_at hl 1 rfl) ?_
    refine lv_aload_n (pc := 52) hx hb dX11_chance_52 rfl (lv_at hl 0 rfl) ?_
    refine lv_iload_n (pc := 53) hx hb dX11_chance_53 rfl (lv_at hl 1 rfl) ?_
    refine lv_iconst (pc := 54) (v := (2 : Int32)) hx hb dX11_chance_54 (by decide) ?_
    obtain ⟨v4, e3, h⟩ := ob h
    obtain ⟨fs5, hb6⟩ := (rX11_of e3)
    refine bz_callV1 (pc := 55) (As := [.int x1, .int (2 : Int32)]) (rest := [.int x1, .ref (pB P + x0), .int x5]) X hM hl.1 k_RX11_222 (ctX11_of l e3) rfl hb6 rfl rfl ⟨(Nat.le_of_ble_eq_true rfl), (Nat.le_of_ble_eq_true rfl)⟩ (Nat.le_of_ble_eq_true rfl) ⟨(Nat.le_of_ble_eq_true rfl), (Nat.le_of_ble_eq_true rfl)⟩ dX11_chance_55 (fun H locs hM => ?_)
    refine lv_iload (pc := 58) hx hb dX11_chance_58 (lv_at hl 6 rfl) ?_
    refine lv_aload_n (pc := 60) hx hb dX11_chance_60 rfl (lv_at hl 0 rfl) ?_
    refine lv_iload_n (pc := 61) hx hb dX11_chance_61 rfl (lv_at hl 1 rfl) ?_
    refine lv_iconst (pc := 62) (v := (4 : Int32)) hx hb dX11_chance_62 (by decide) ?_
    obtain ⟨v8, e7, h⟩ := ob h
    obtain ⟨fs9, hb10⟩ := (rX11_of e7)
    refine bz_callV1 (pc := 63) (As := [.int x1, .int (4 : Int32)]) (rest := [.int x6, .int v4, .int x1, .ref (pB P + x0), .int x5]) X hM hl.1 k_RX11_222 (ctX11_of l e7) rfl hb10 rfl rfl ⟨(Nat.le_of_ble_eq_true rfl), (Nat.le_of_ble_eq_true rfl)⟩ (Nat.le_of_ble_eq_true rfl) ⟨(Nat.le_of_ble_eq_true rfl), (Nat.le_of_ble_eq_true rfl)⟩ dX11_chance_63 (fun H locs hM => ?_)
    refine lv_imul (pc := 66) hx hb dX11_chance_66 ?_
    obtain ⟨v12, e11, h⟩ := ob h
    obtain ⟨fs13, hb14⟩ := (rX11_slid e11)
    refine bz_callV1 (pc := 67) (As := [.int x1, .int v4, .int (x6 * v8)]) (rest := [.int x5]) X hM hl.1 k_RX11_228 (ctX11_slid l e11) rfl hb14 rfl rfl ⟨(Nat.le_of_ble_eq_true rfl), (Nat.le_of_ble_eq_true rfl)⟩ (Nat.le_of_ble_eq_true rfl) ⟨(Nat.le_of_ble_eq_true rfl), (Nat.le_of_ble_eq_true rfl)⟩ dX11_chance_67 (fun H locs hM => ?_)
    refine lv_iload (pc := 70) hx hb dX11_chance_70 (lv_at hl 4 rfl) ?_
    refine lv_icmp_lt (pc := 72) (tgt := 79) hx hb dX11_chance_72 (by decide) (fun hc => ?_) (fun hc => ?_)
    · have h := if_t hc h
      refine lv_iconst (pc := 79) (v := (0 : Int32)) hx hb dX11_chance_79 (by decide) ?_
      refine lv_iadd (pc := 80) hx hb dX11_chance_80 ?_
      refine lv_istore (pc := 81) (lv' := [(5, .int (x5 + (0 : Int32))), (0, .ref (pB P + x0)), (1, .int x1), (2, .int x2), (3, .int x3), (4, .int x4), (6, .int x6)]) hx hb dX11_chance_81 hl (by decide) rfl (fun ls hl => ?_)
      refine lv_iinc (pc := 83) (v := (x6 + (1 : Int32))) (lv' := [(6, .int (x6 + (1 : Int32))), (5, .int (x5 + (0 : Int32))), (0, .ref (pB P + x0)), (1, .int x1), (2, .int x2), (3, .int x3), (4, .int x4)]) hx hb dX11_chance_83 hl (k := 6) rfl rfl (by decide) rfl (fun ls hl => ?_)
      refine lv_goto (pc := 86) (tgt := 42) hx hb dX11_chance_86 (by decide) ?_
      exact hK42 _ _ _ _ _ _ _ _ h H locs ls hM (lv_sub hl [2, 3, 4, 5, 6, 1, 0] rfl)
    · have h := if_f hc h
      refine lv_iconst (pc := 75) (v := (1 : Int32)) hx hb dX11_chance_75 (by decide) ?_
      refine lv_goto (pc := 76) (tgt := 80) hx hb dX11_chance_76 (by decide) ?_
      refine lv_iadd (pc := 80) hx hb dX11_chance_80 ?_
      refine lv_istore (pc := 81) (lv' := [(5, .int (x5 + (1 : Int32))), (0, .ref (pB P + x0)), (1, .int x1), (2, .int x2), (3, .int x3), (4, .int x4), (6, .int x6)]) hx hb dX11_chance_81 hl (by decide) rfl (fun ls hl => ?_)
      refine lv_iinc (pc := 83) (v := (x6 + (1 : Int32))) (lv' := [(6, .int (x6 + (1 : Int32))), (5, .int (x5 + (1 : Int32))), (0, .ref (pB P + x0)), (1, .int x1), (2, .int x2), (3, .int x3), (4, .int x4)]) hx hb dX11_chance_83 hl (k := 6) rfl rfl (by decide) rfl (fun ls hl => ?_)
      refine lv_goto (pc := 86) (tgt := 42) hx hb dX11_chance_86 (by decide) ?_
      exact hK42 _ _ _ _ _ _ _ _ h H locs ls hM (lv_sub hl [2, 3, 4, 5, 6, 1, 0] rfl)
set_option maxHeartbeats 4000000 in
set_option maxRecDepth 100000 in
theorem wLX11_chance_42 {p : Program} {l : Launch} {e : Env} {s : State} {m : MethodId} {args : Array Value} {below : List Frame} {meth : Method} {c : Code} {P : PT} {N : Nat}  {r9 : Int32} {M9 : Mm} (hX : Cy p s m args c meth cX11_chance 7 RX11 "chance" (some .int) P)   : ∀ (n : Nat) (M : Mm) (x0 : Nat) (x1 : Int32) (x2 : Int32) (x3 : Int32) (x4 : Int32) (x5 : Int32) (x6 : Int32) , LX11_chance_42 N n M x0 x1 x2 x3 x4 x5 x6 = some (r9, M9) → Wq p l e s m args below meth c 6 0 (some (.int r9)) M9 7 P 0 42 [(0, .ref (pB P + x0)), (1, .int x1), (2, .int x2), (3, .int x3), (4, .int x4), (5, .int x5), (6, .int x6)] [] M := by
  intro n
  induction n with
  | zero => intro M x0 x1 x2 x3 x4 x5 x6 h; cases h
  | succ n ih => intro M x0 x1 x2 x3 x4 x5 x6 h; exact wBX11_chance_42 hX ih M x0 x1 x2 x3 x4 x5 x6 h
set_option maxHeartbeats 4000000 in
set_option maxRecDepth 100000 in
theorem wjX11_chance_19 {p : Program} {l : Launch} {e : Env} {s : State} {m : MethodId} {args : Array Value} {below : List Frame} {meth : Method} {c : Code} {P : PT} {N : Nat}  {r9 : Int32} {M9 : Mm} (hX : Cy p s m args c meth cX11_chance 7 RX11 "chance" (some .int) P)   (M : Mm) (x0 : Nat)  (h : jX11_chance_19 N M x0 = some (r9, M9)) : Wq p l e s m args below meth c 6 0 (some (.int r9)) M9 7 P 0 19 [(0, .ref (pB P + x0))] [] M := by
  unfold jX11_chance_19 at h
  have hX0 := hX
  obtain ⟨X, hr, hlk, hnm⟩ := hX0
  have hx := X.1.1
  have hb := X.1.2.1
  intro H locs ls hM hl
  refine lv_aload_n (pc := 19) hx hb dX11_chance_19 rfl (lv_at hl 0 rfl) ?_
  refine lv_iconst (pc := 20) (v := (1 : Int32)) hx hb dX11_chance_20 (by decide) ?_
  obtain ⟨v2, M3, e1, h⟩ := ob2 h
  obtain ⟨fs4, hb5⟩ := (rX11_error e1)
  refine bz_callV1 (pc := 21) (As := [.int (1 : Int32)]) (rest := []) X hM hl.1 k_RX11_73 (ctX11_error l e1) rfl hb5 rfl rfl ⟨(Nat.le_of_ble_eq_true rfl), (Nat.le_of_ble_eq_true rfl)⟩ (Nat.le_of_ble_eq_true rfl) ⟨(Nat.le_of_ble_eq_true rfl), (Nat.le_of_ble_eq_true rfl)⟩ dX11_chance_21 (fun H locs hM => ?_)
  obtain ⟨rfl, rfl⟩ := so2 h
  exact bz_iret (pc := 24) X hM hr hlk dX11_chance_24 (Nat.le_of_ble_eq_true rfl) (Nat.le_of_ble_eq_true rfl)
set_option maxHeartbeats 4000000 in
set_option maxRecDepth 100000 in
theorem wX11_chance {p : Program} {l : Launch} {e : Env} {s : State} {m : MethodId} {args : Array Value} {below : List Frame} {meth : Method} {c : Code} {P : PT} {N : Nat}  {r9 : Int32} {M9 : Mm} (hX : Cy p s m args c meth cX11_chance 7 RX11 "chance" (some .int) P)  (M : Mm) (a0 : Nat) (a1 : Int32) (a2 : Int32) (a3 : Int32) (h : fX11_chance N M a0 a1 a2 a3 = some (r9, M9)) : Wq p l e s m args below meth c 6 0 (some (.int r9)) M9 7 P 0 0 [(0, .ref (pB P + a0)), (1, .int a1), (2, .int a2), (3, .int a3)] [] M := by
  unfold fX11_chance at h
  obtain ⟨_, _, h⟩ := ob h
  have hX0 := hX
  obtain ⟨X, hr, hlk, hnm⟩ := hX0
  have hx := X.1.1
  have hb := X.1.2.1
  intro H locs ls hM hl
  refine lv_aload_n (pc := 0) hx hb dX11_chance_0 rfl (lv_at hl 0 rfl) ?_
  refine lv_iload_n (pc := 1) hx hb dX11_chance_1 rfl (lv_at hl 1 rfl) ?_
  refine lv_iload_n (pc := 2) hx hb dX11_chance_2 rfl (lv_at hl 2 rfl) ?_
  obtain ⟨v2, e1, h⟩ := ob h
  obtain ⟨fs3, hb4⟩ := (rX11_isAsked e1)
  refine bz_callV1 (pc := 3) (As := [.int a1, .int a2]) (rest := []) X hM hl.1 k_RX11_255 (ctX11_isAsked l e1) rfl hb4 rfl rfl ⟨(Nat.le_of_ble_eq_true rfl), (Nat.le_of_ble_eq_true rfl)⟩ (Nat.le_of_ble_eq_true rfl) ⟨(Nat.le_of_ble_eq_true rfl), (Nat.le_of_ble_eq_true rfl)⟩ dX11_chance_3 (fun H locs hM => ?_)
  refine lv_if_eq (pc := 6) (tgt := 19) hx hb dX11_chance_6 (by decide) (fun hc => ?_) (fun hc => ?_)
  · have h := if_t hc h
    exact wjX11_chance_19 hX _ _ h H locs ls hM (lv_sub hl [0] rfl)
  · have h := if_f hc h
    refine lv_iload_n (pc := 9) hx hb dX11_chance_9 rfl (lv_at hl 3 rfl) ?_
    refine lv_i2l (pc := 10) (v := ((a3).toInt64)) hx hb dX11_chance_10 rfl ?_
    refine lv_lconst (pc := 11) (v := (0 : Int64)) hx hb dX11_chance_11 (by decide) ?_
    refine lv_lconst (pc := 12) (v := (1 : Int64)) hx hb dX11_chance_12 (by decide) ?_
    obtain ⟨v6, e5, h⟩ := ob h
    refine bz_callS1 (pc := 13) (As := [.long ((a3).toInt64), .long (0 : Int64), .long (1 : Int64)]) (rest := []) X hM hl.1 k_RX11_57 (ctX11_in l e5) rfl rfl ⟨(Nat.le_of_ble_eq_true rfl), (Nat.le_of_ble_eq_true rfl)⟩ (Nat.le_of_ble_eq_true rfl) ⟨(Nat.le_of_ble_eq_true rfl), (Nat.le_of_ble_eq_true rfl)⟩ dX11_chance_13 (fun H locs hM => ?_)
    refine lv_if_ne (pc := 16) (tgt := 25) hx hb dX11_chance_16 (by decide) (fun hc => ?_) (fun hc => ?_)
    · have h := if_f hc h
      refine lv_aload_n (pc := 25) hx hb dX11_chance_25 rfl (lv_at hl 0 rfl) ?_
      obtain ⟨M8, e7, h⟩ := ob h
      obtain ⟨fs9, hb10⟩ := (rX11_readAll e7)
      refine bz_callV0 (pc := 26) (As := []) (rest := []) X hM hl.1 k_RX11_120 (ctX11_readAll l e7) rfl hb10 rfl rfl ⟨(Nat.le_of_ble_eq_true rfl), (Nat.le_of_ble_eq_true rfl)⟩ (Nat.le_of_ble_eq_true rfl) ⟨(Nat.le_of_ble_eq_true rfl), (Nat.le_of_ble_eq_true rfl)⟩ dX11_chance_26 (fun H locs hM => ?_)
      refine lv_aload_n (pc := 29) hx hb dX11_chance_29 rfl (lv_at hl 0 rfl) ?_
      refine lv_iload_n (pc := 30) hx hb dX11_chance_30 rfl (lv_at hl 1 rfl) ?_
      obtain ⟨v12, e11, h⟩ := ob h
      obtain ⟨fs13, hb14⟩ := (rX11_plain e11)
      refine bz_callV1 (pc := 31) (As := [.int a1]) (rest := []) X hM hl.1 k_RX11_234 (ctX11_plain l e11) rfl hb14 rfl rfl ⟨(Nat.le_of_ble_eq_true rfl), (Nat.le_of_ble_eq_true rfl)⟩ (Nat.le_of_ble_eq_true rfl) ⟨(Nat.le_of_ble_eq_true rfl), (Nat.le_of_ble_eq_true rfl)⟩ dX11_chance_31 (fun H locs hM => ?_)
      refine lv_istore (pc := 34) (lv' := [(4, .int v12), (0, .ref (pB P + a0)), (1, .int a1), (2, .int a2), (3, .int a3)]) hx hb dX11_chance_34 hl (by decide) rfl (fun ls hl => ?_)
      refine lv_iconst (pc := 36) (v := (0 : Int32)) hx hb dX11_chance_36 (by decide) ?_
      refine lv_istore (pc := 37) (lv' := [(5, .int (0 : Int32)), (4, .int v12), (0, .ref (pB P + a0)), (1, .int a1), (2, .int a2), (3, .int a3)]) hx hb dX11_chance_37 hl (by decide) rfl (fun ls hl => ?_)
      refine lv_iconst (pc := 39) (v := (1 : Int32)) hx hb dX11_chance_39 (by decide) ?_
      refine lv_istore (pc := 40) (lv' := [(6, .int (1 : Int32)), (5, .int (0 : Int32)), (4, .int v12), (0, .ref (pB P + a0)), (1, .int a1), (2, .int a2), (3, .int a3)]) hx hb dX11_chance_40 hl (by decide) rfl (fun ls hl => ?_)
      exact wLX11_chance_42 hX _ _ _ _ _ _ _ _ _ h H locs ls hM (lv_sub hl [3, 4, 5, 6, 2, 1, 0] rfl)
    · have h := if_t hc h
      exact wjX11_chance_19 hX _ _ h H locs ls hM (lv_sub hl [0] rfl)
theorem rX11_chance {N : Nat} {M : Mm} {a0 : Nat} {a1 : Int32} {a2 : Int32} {a3 : Int32} {r9 : Int32 × Mm} (h : fX11_chance N M a0 a1 a2 a3 = some r9) : ∃ fs, M[a0]? = some (.inr (11, fs)) := by
  unfold fX11_chance at h
  obtain ⟨_, e1, _⟩ := ob h
  exact gC_spec e1
theorem ctX11_chance (l : Launch) {P : PT} {N : Nat} {M : Mm} {a0 : Nat} {a1 : Int32} {a2 : Int32} {a3 : Int32} {r9 : Int32} {M9 : Mm} (h : fX11_chance N M a0 a1 a2 a3 = some (r9, M9)) : Ct l yX11_chance cX11_chance 7 (some .int) 6 0 P [.ref (pB P + a0), .int a1, .int a2, .int a3] M (some (.int r9)) M9 :=
  Ct.mk (by decide +kernel) (Nat.le_of_ble_eq_true rfl) (fun p e s m args below meth c hX => wX11_chance hX M a0 a1 a2 a3 h)
set_option maxHeartbeats 4000000 in
set_option maxRecDepth 100000 in
theorem wBX5_leastRare_2 {p : Program} {l : Launch} {e : Env} {s : State} {m : MethodId} {args : Array Value} {below : List Frame} {meth : Method} {c : Code} {P : PT} {N : Nat} {K2 : Mm → Nat → Int32 → Int32 → Option (Int32)}  {r9 : Int32} (hX : Cy p s m args c meth cX5_leastRare 3 RX5 "leastRare" (some .int) P)  (hK2 : ∀ (M : Mm) (x0 : Nat) (x1 : Int32) (x2 : Int32), K2 M x0 x1 x2 = some r9 → Wq p l e s m args below meth c 2 0 (some (.int r9)) M 3 P 0 2 [(0, .ref (pB P + x0)), (1, .int x1), (2, .int x2)] [] M) (M : Mm) (x0 : Nat) (x1 : Int32) (x2 : Int32)  (h : BX5_leastRare_2 N K2 M x0 x1 x2 = some r9) : Wq p l e s m args below meth c 2 0 (some (.int r9)) M 3 P 0 2 [(0, .ref (pB P + x0)), (1, .int x1), (2, .int x2)] [] M := by
  unfold BX5_leastRare_2 at h
  have hX0 := hX
  obtain ⟨X, hr, hlk, hnm⟩ := hX0
  have hx := X.1.1
  have hb := X.1.2.1
  intro H locs ls hM hl
  refine lv_iload_n (pc := 2) hx hb dX5_leastRare_2 rfl (lv_at hl 2 rfl) ?_
  refine lv_bipush (pc := 3) (v := (96 : Int32)) hx hb dX5_leastRare_3 (by decide) ?_
  refine lv_icmp_gt (pc := 5) (tgt := 31) hx hb dX5_leastRare_5 (by decide) (fun hc => ?_) (fun hc => ?_)
  · have h := if_t hc h
    refine lv_iload_n (pc := 31) hx hb dX5_leastRare_31 rfl (lv_at hl 2 rfl) ?_
    obtain rfl := so1 h
    exact bz_iret (pc := 32) X hM hr hlk dX5_leastRare_32 (Nat.le_of_ble_eq_true rfl) (Nat.le_of_ble_eq_true rfl)
  · have h := if_f hc h
    refine lv_bipush (pc := 8) (v := (100 : Int32)) hx hb dX5_leastRare_8 (by decide) ?_
    refine lv_aload_n (pc := 10) hx hb dX5_leastRare_10 rfl (lv_at hl 0 rfl) ?_
    refine lv_iload_n (pc := 11) hx hb dX5_leastRare_11 rfl (lv_at hl 2 rfl) ?_
    obtain ⟨v2, e1, h⟩ := ob h
    obtain ⟨fs3, hb4⟩ := (rX5_slidWith e1)
    refine bz_callV1 (pc := 12) (As := [.int x2]) (rest := [.int (100 : Int32)]) X hM hl.1 k_RX5_58 (ctX5_slidWith l e1) rfl hb4 rfl rfl ⟨(Nat.le_of_ble_eq_true rfl), (Nat.le_of_ble_eq_true rfl)⟩ (Nat.le_of_ble_eq_true rfl) ⟨(Nat.le_of_ble_eq_true rfl), (Nat.le_of_ble_eq_true rfl)⟩ dX5_leastRare_12 (fun H locs hM => ?_)
    refine lv_imul (pc := 15) hx hb dX5_leastRare_15 ?_
    refine lv_iload_n (pc := 16) hx hb dX5_leastRare_16 rfl (lv_at hl 1 rfl) ?_
    refine lv_aload_n (pc := 17) hx hb dX5_leastRare_17 rfl (lv_at hl 0 rfl) ?_
    obtain ⟨v5, e6, h⟩ := ob h
    refine bz_getI (pc := 18) X hM fl_RX5_28 e6 dX5_leastRare_18 ?_
    refine lv_imul (pc := 21) hx hb dX5_leastRare_21 ?_
    refine lv_icmp_le (pc := 22) (tgt := 31) hx hb dX5_leastRare_22 (by decide) (fun hc => ?_) (fun hc => ?_)
    · have h := if_t hc h
      refine lv_iload_n (pc := 31) hx hb dX5_leastRare_31 rfl (lv_at hl 2 rfl) ?_
      obtain rfl := so1 h
      exact bz_iret (pc := 32) X hM hr hlk dX5_leastRare_32 (Nat.le_of_ble_eq_true rfl) (Nat.le_of_ble_eq_true rfl)
    · have h := if_f hc h
      refine lv_iinc (pc := 25) (v := (x2 + (1 : Int32))) (lv' := [(2, .int (x2 + (1 : Int32))), (0, .ref (pB P + x0)), (1, .int x1)]) hx hb dX5_leastRare_25 hl (k := 2) rfl rfl (by decide) rfl (fun ls hl => ?_)
      refine lv_goto (pc := 28) (tgt := 2) hx hb dX5_leastRare_28 (by decide) ?_
      exact hK2 _ _ _ _ h H locs ls hM (lv_sub hl [1, 2, 0] rfl)
set_option maxHeartbeats 4000000 in
set_option maxRecDepth 100000 in
theorem wLX5_leastRare_2 {p : Program} {l : Launch} {e : Env} {s : State} {m : MethodId} {args : Array Value} {below : List Frame} {meth : Method} {c : Code} {P : PT} {N : Nat}  {r9 : Int32} (hX : Cy p s m args c meth cX5_leastRare 3 RX5 "leastRare" (some .int) P)   : ∀ (n : Nat) (M : Mm) (x0 : Nat) (x1 : Int32) (x2 : Int32) , LX5_leastRare_2 N n M x0 x1 x2 = some r9 → Wq p l e s m args below meth c 2 0 (some (.int r9)) M 3 P 0 2 [(0, .ref (pB P + x0)), (1, .int x1), (2, .int x2)] [] M := by
  intro n
  induction n with
  | zero => intro M x0 x1 x2 h; cases h
  | succ n ih => intro M x0 x1 x2 h; exact wBX5_leastRare_2 hX ih M x0 x1 x2 h
set_option maxHeartbeats 4000000 in
set_option maxRecDepth 100000 in
theorem wX5_leastRare {p : Program} {l : Launch} {e : Env} {s : State} {m : MethodId} {args : Array Value} {below : List Frame} {meth : Method} {c : Code} {P : PT} {N : Nat}  {r9 : Int32} (hX : Cy p s m args c meth cX5_leastRare 3 RX5 "leastRare" (some .int) P)  (M : Mm) (a0 : Nat) (a1 : Int32) (h : fX5_leastRare N M a0 a1 = some r9) : Wq p l e s m args below meth c 2 0 (some (.int r9)) M 3 P 0 0 [(0, .ref (pB P + a0)), (1, .int a1)] [] M := by
  unfold fX5_leastRare at h
  obtain ⟨_, _, h⟩ := ob h
  have hX0 := hX
  obtain ⟨X, hr, hlk, hnm⟩ := hX0
  have hx := X.1.1
  have hb := X.1.2.1
  intro H locs ls hM hl
  refine lv_iconst (pc := 0) (v := (0 : Int32)) hx hb dX5_leastRare_0 (by decide) ?_
  refine lv_istore_n (pc := 1) (lv' := [(2, .int (0 : Int32)), (0, .ref (pB P + a0)), (1, .int a1)]) hx hb dX5_leastRare_1 rfl hl (by decide) rfl (fun ls hl => ?_)
  exact wLX5_leastRare_2 hX _ _ _ _ _ h H locs ls hM (lv_sub hl [1, 2, 0] rfl)
theorem rX5_leastRare {N : Nat} {M : Mm} {a0 : Nat} {a1 : Int32} {r9 : Int32} (h : fX5_leastRare N M a0 a1 = some r9) : ∃ fs, M[a0]? = some (.inr (5, fs)) := by
  unfold fX5_leastRare at h
  obtain ⟨_, e1, _⟩ := ob h
  exact gC_spec e1
theorem ctX5_leastRare (l : Launch) {P : PT} {N : Nat} {M : Mm} {a0 : Nat} {a1 : Int32} {r9 : Int32} (h : fX5_leastRare N M a0 a1 = some r9) : Ct l yX5_leastRare cX5_leastRare 3 (some .int) 2 0 P [.ref (pB P + a0), .int a1] M (some (.int r9)) M :=
  Ct.mk (by decide +kernel) (Nat.le_of_ble_eq_true rfl) (fun p e s m args below meth c hX => wX5_leastRare hX M a0 a1 h)
set_option maxHeartbeats 4000000 in
set_option maxRecDepth 100000 in
theorem wjX10_ahead_32 {p : Program} {l : Launch} {e : Env} {s : State} {m : MethodId} {args : Array Value} {below : List Frame} {meth : Method} {c : Code} {P : PT} {N : Nat}  {r9 : Int32} {M9 : Mm} (hX : Cy p s m args c meth cX10_ahead 5 RX10 "ahead" (some .int) P)   (M : Mm) (x0 : Nat)  (h : jX10_ahead_32 N M x0 = some (r9, M9)) : Wq p l e s m args below meth c 6 0 (some (.int r9)) M9 5 P 0 32 [(0, .ref (pB P + x0))] [] M := by
  unfold jX10_ahead_32 at h
  have hX0 := hX
  obtain ⟨X, hr, hlk, hnm⟩ := hX0
  have hx := X.1.1
  have hb := X.1.2.1
  intro H locs ls hM hl
  refine lv_aload_n (pc := 32) hx hb dX10_ahead_32 rfl (lv_at hl 0 rfl) ?_
  refine lv_iconst (pc := 33) (v := (1 : Int32)) hx hb dX10_ahead_33 (by decide) ?_
  obtain ⟨v2, M3, e1, h⟩ := ob2 h
  obtain ⟨fs4, hb5⟩ := (rX10_error e1)
  refine bz_callV1 (pc := 34) (As := [.int (1 : Int32)]) (rest := []) X hM hl.1 k_RX10_78 (ctX10_error l e1) rfl hb5 rfl rfl ⟨(Nat.le_of_ble_eq_true rfl), (Nat.le_of_ble_eq_true rfl)⟩ (Nat.le_of_ble_eq_true rfl) ⟨(Nat.le_of_ble_eq_true rfl), (Nat.le_of_ble_eq_true rfl)⟩ dX10_ahead_34 (fun H locs hM => ?_)
  obtain ⟨rfl, rfl⟩ := so2 h
  exact bz_iret (pc := 37) X hM hr hlk dX10_ahead_37 (Nat.le_of_ble_eq_true rfl) (Nat.le_of_ble_eq_true rfl)
set_option maxHeartbeats 4000000 in
set_option maxRecDepth 100000 in
theorem wX10_ahead {p : Program} {l : Launch} {e : Env} {s : State} {m : MethodId} {args : Array Value} {below : List Frame} {meth : Method} {c : Code} {P : PT} {N : Nat}  {r9 : Int32} {M9 : Mm} (hX : Cy p s m args c meth cX10_ahead 5 RX10 "ahead" (some .int) P)  (M : Mm) (a0 : Nat) (a1 : Int32) (a2 : Int32) (a3 : Int32) (h : fX10_ahead N M a0 a1 a2 a3 = some (r9, M9)) : Wq p l e s m args below meth c 6 0 (some (.int r9)) M9 5 P 0 0 [(0, .ref (pB P + a0)), (1, .int a1), (2, .int a2), (3, .int a3)] [] M := by
  unfold fX10_ahead at h
  obtain ⟨_, _, h⟩ := ob h
  have hX0 := hX
  obtain ⟨X, hr, hlk, hnm⟩ := hX0
  have hx := X.1.1
  have hb := X.1.2.1
  intro H locs ls hM hl
  refine lv_aload_n (pc := 0) hx hb dX10_ahead_0 rfl (lv_at hl 0 rfl) ?_
  obtain ⟨q1, e2, h⟩ := ob h
  refine bz_getQ (pc := 1) X hM fl_RX10_10 e2 dX10_ahead_1 ?_
  refine lv_iload_n (pc := 4) hx hb dX10_ahead_4 rfl (lv_at hl 1 rfl) ?_
  obtain ⟨r4, e3, h⟩ := ob h
  obtain ⟨fs5, hb6⟩ := (rX6_countingAt e3)
  refine bz_callV1 (pc := 5) (As := [.int a1]) (rest := []) X hM hl.1 k_RX10_239 (ctX6_countingAt l e3) rfl hb6 rfl rfl ⟨(Nat.le_of_ble_eq_true rfl), (Nat.le_of_ble_eq_true rfl)⟩ (Nat.le_of_ble_eq_true rfl) ⟨(Nat.le_of_ble_eq_true rfl), (Nat.le_of_ble_eq_true rfl)⟩ dX10_ahead_5 (fun H locs hM => ?_)
  refine bz_astoreO (pc := 8) (lv' := [(4, rO P r4), (0, .ref (pB P + a0)), (1, .int a1), (2, .int a2), (3, .int a3)]) hx hb dX10_ahead_8 hl (by decide) rfl (fun ls hl => ?_)
  refine bz_aloadO (pc := 10) hx hb dX10_ahead_10 (lv_at hl 0 rfl) ?_
  refine bz_ifnullO (pc := 12) (tgt := 32) hx hb dX10_ahead_12 (by decide) (fun hc => ?_) (fun q7 hc => ?_)
  · subst hc
    have h := om_n rfl h
    have hl : lv_has ls 5 [(4, .null), (0, .ref (pB P + a0)), (1, .int a1), (2, .int a2), (3, .int a3)] := hl
    exact wjX10_ahead_32 hX _ _ h H locs ls hM (lv_sub hl [1] rfl)
  · subst hc
    have h := om_s rfl h
    have hl : lv_has ls 5 [(4, .ref (pB P + q7)), (0, .ref (pB P + a0)), (1, .int a1), (2, .int a2), (3, .int a3)] := hl
    refine lv_iload_n (pc := 15) hx hb dX10_ahead_15 rfl (lv_at hl 3 rfl) ?_
    obtain ⟨v9, e8, h⟩ := ob h
    refine bz_callS1 (pc := 16) (As := [.int a2]) (rest := []) X hM hl.1 k_RX10_260 (ctX10_isSlides l e8) rfl rfl ⟨(Nat.le_of_ble_eq_true rfl), (Nat.le_of_ble_eq_true rfl)⟩ (Nat.le_of_ble_eq_true rfl) ⟨(Nat.le_of_ble_eq_true rfl), (Nat.le_of_ble_eq_true rfl)⟩ dX10_ahead_16 (fun H locs hM => ?_)
    refine lv_if_eq (pc := 19) (tgt := 32) hx hb dX10_ahead_19 (by decide) (fun hc => ?_) (fun hc => ?_)
    · have h := if_t hc h
      exact wjX10_ahead_32 hX _ _ h H locs ls hM (lv_sub hl [1] rfl)
    · have h := if_f hc h
      refine lv_iload_n (pc := 22) hx hb dX10_ahead_22 rfl (lv_at hl 4 rfl) ?_
      refine lv_iconst (pc := 23) (v := (0 : Int32)) hx hb dX10_ahead_23 (by decide) ?_
      refine lv_bipush (pc := 24) (v := (100 : Int32)) hx hb dX10_ahead_24 (by decide) ?_
      obtain ⟨v11, e10, h⟩ := ob h
      refine bz_callS1 (pc := 26) (As := [.int a3, .int (0 : Int32), .int (100 : Int32)]) (rest := []) X hM hl.1 k_RX10_74 (ctX10_within l e10) rfl rfl ⟨(Nat.le_of_ble_eq_true rfl), (Nat.le_of_ble_eq_true rfl)⟩ (Nat.le_of_ble_eq_true rfl) ⟨(Nat.le_of_ble_eq_true rfl), (Nat.le_of_ble_eq_true rfl)⟩ dX10_ahead_26 (fun H locs hM => ?_)
      refine lv_if_ne (pc := 29) (tgt := 38) hx hb dX10_ahead_29 (by decide) (fun hc => ?_) (fun hc => ?_)
      · have h := if_f hc h
        refine lv_aload_n (pc := 38) hx hb dX10_ahead_38 rfl (lv_at hl 1 rfl) ?_
        obtain ⟨q12, e13, h⟩ := ob h
        refine bz_getQ (pc := 39) X hM fl_RX10_42 e13 dX10_ahead_39 ?_
        refine lv_aload_n (pc := 42) hx hb dX10_ahead_42 rfl (lv_at hl 1 rfl) ?_
        obtain ⟨q14, e15, h⟩ := ob h
        refine bz_getQ (pc := 43) X hM fl_RX10_10 e15 dX10_ahead_43 ?_
        refine lv_aload (pc := 46) hx hb dX10_ahead_46 (lv_at hl 0 rfl) ?_
        obtain ⟨v16, e17, h⟩ := ob h
        refine bz_getI (pc := 48) X hM fl_RX10_250 e17 dX10_ahead_48 ?_
        obtain ⟨M19, e18, h⟩ := ob h
        obtain ⟨fs20, hb21⟩ := (rX1_hear e18)
        refine bz_callV0 (pc := 51) (As := [.ref (pB P + q14), .int v16]) (rest := []) X hM hl.1 k_RX10_217 (ctX1_hear l e18) rfl hb21 rfl rfl ⟨(Nat.le_of_ble_eq_true rfl), (Nat.le_of_ble_eq_true rfl)⟩ (Nat.le_of_ble_eq_true rfl) ⟨(Nat.le_of_ble_eq_true rfl), (Nat.le_of_ble_eq_true rfl)⟩ dX10_ahead_51 (fun H locs hM => ?_)
        refine lv_aload_n (pc := 54) hx hb dX10_ahead_54 rfl (lv_at hl 1 rfl) ?_
        obtain ⟨q22, e23, h⟩ := ob h
        refine bz_getQ (pc := 55) X hM fl_RX10_56 e23 dX10_ahead_55 ?_
        refine lv_aload_n (pc := 58) hx hb dX10_ahead_58 rfl (lv_at hl 1 rfl) ?_
        obtain ⟨q24, e25, h⟩ := ob h
        refine bz_getQ (pc := 59) X hM fl_RX10_42 e25 dX10_ahead_59 ?_
        refine lv_aload (pc := 62) hx hb dX10_ahead_62 (lv_at hl 0 rfl) ?_
        refine lv_aload (pc := 64) hx hb dX10_ahead_64 (lv_at hl 0 rfl) ?_
        obtain ⟨v26, e27, h⟩ := ob h
        refine bz_getI (pc := 66) X hM fl_RX10_246 e27 dX10_ahead_66 ?_
        refine lv_iload_n (pc := 69) hx hb dX10_ahead_69 rfl (lv_at hl 3 rfl) ?_
        obtain ⟨M29, e28, h⟩ := ob h
        obtain ⟨fs30, hb31⟩ := (rX5_take e28)
        refine bz_callV0 (pc := 70) (As := [.ref (pB P + q24), .ref (pB P + q7), .int v26, .int a2]) (rest := []) X hM hl.1 k_RX10_266 (ctX5_take l e28) rfl hb31 rfl rfl ⟨(Nat.le_of_ble_eq_true rfl), (Nat.le_of_ble_eq_true rfl)⟩ (Nat.le_of_ble_eq_true rfl) ⟨(Nat.le_of_ble_eq_true rfl), (Nat.le_of_ble_eq_true rfl)⟩ dX10_ahead_70 (fun H locs hM => ?_)
        refine lv_aload_n (pc := 73) hx hb dX10_ahead_73 rfl (lv_at hl 1 rfl) ?_
        obtain ⟨q32, e33, h⟩ := ob h
        refine bz_getQ (pc := 74) X hM fl_RX10_56 e33 dX10_ahead_74 ?_
        refine lv_iload_n (pc := 77) hx hb dX10_ahead_77 rfl (lv_at hl 4 rfl) ?_
        obtain ⟨v35, e34, h⟩ := ob h
        obtain ⟨fs36, hb37⟩ := (rX5_leastRare e34)
        refine bz_callV1 (pc := 78) (As := [.int a3]) (rest := []) X hM hl.1 k_RX10_277 (ctX5_leastRare l e34) rfl hb37 rfl rfl ⟨(Nat.le_of_ble_eq_true rfl), (Nat.le_of_ble_eq_true rfl)⟩ (Nat.le_of_ble_eq_true rfl) ⟨(Nat.le_of_ble_eq_true rfl), (Nat.le_of_ble_eq_true rfl)⟩ dX10_ahead_78 (fun H locs hM => ?_)
        obtain ⟨rfl, rfl⟩ := so2 h
        exact bz_iret (pc := 81) X hM hr hlk dX10_ahead_81 (Nat.le_of_ble_eq_true rfl) (Nat.le_of_ble_eq_true rfl)
      · have h := if_t hc h
        exact wjX10_ahead_32 hX _ _ h H locs ls hM (lv_sub hl [1] rfl)
theorem rX10_ahead {N : Nat} {M : Mm} {a0 : Nat} {a1 : Int32} {a2 : Int32} {a3 : Int32} {r9 : Int32 × Mm} (h : fX10_ahead N M a0 a1 a2 a3 = some r9) : ∃ fs, M[a0]? = some (.inr (10, fs)) := by
  unfold fX10_ahead at h
  obtain ⟨_, e1, _⟩ := ob h
  exact gC_spec e1
theorem ctX10_ahead (l : Launch) {P : PT} {N : Nat} {M : Mm} {a0 : Nat} {a1 : Int32} {a2 : Int32} {a3 : Int32} {r9 : Int32} {M9 : Mm} (h : fX10_ahead N M a0 a1 a2 a3 = some (r9, M9)) : Ct l yX10_ahead cX10_ahead 5 (some .int) 6 0 P [.ref (pB P + a0), .int a1, .int a2, .int a3] M (some (.int r9)) M9 :=
  Ct.mk (by decide +kernel) (Nat.le_of_ble_eq_true rfl) (fun p e s m args below meth c hX => wX10_ahead hX M a0 a1 a2 a3 h)
set_option maxHeartbeats 4000000 in
set_option maxRecDepth 100000 in
theorem wBX11_asMany_5 {p : Program} {l : Launch} {e : Env} {s : State} {m : MethodId} {args : Array Value} {below : List Frame} {meth : Method} {c : Code} {P : PT} {N : Nat} {K5 : Mm → Nat → Int32 → Int32 → Int32 → Int32 → Option (Int32)}  {r9 : Int32} (hX : Cy p s m args c meth cX11_asMany 5 RX11 "asMany" (some .int) P)  (hK5 : ∀ (M : Mm) (x0 : Nat) (x1 : Int32) (x2 : Int32) (x3 : Int32) (x4 : Int32), K5 M x0 x1 x2 x3 x4 = some r9 → Wq p l e s m args below meth c 0 0 (some (.int r9)) M 5 P 0 5 [(0, .ref (pB P + x0)), (1, .int x1), (2, .int x2), (3, .int x3), (4, .int x4)] [] M) (M : Mm) (x0 : Nat) (x1 : Int32) (x2 : Int32) (x3 : Int32) (x4 : Int32)  (h : BX11_asMany_5 N K5 M x0 x1 x2 x3 x4 = some r9) : Wq p l e s m args below meth c 0 0 (some (.int r9)) M 5 P 0 5 [(0, .ref (pB P + x0)), (1, .int x1), (2, .int x2), (3, .int x3), (4, .int x4)] [] M := by
  unfold BX11_asMany_5 at h
  have hX0 := hX
  obtain ⟨X, hr, hlk, hnm⟩ := hX0
  have hx := X.1.1
  have hb := X.1.2.1
  intro H locs ls hM hl
  refine lv_iload (pc := 5) hx hb dX11_asMany_5 (lv_at hl 4 rfl) ?_
  refine lv_iload_n (pc := 7) hx hb dX11_asMany_7 rfl (lv_at hl 1 rfl) ?_
  refine lv_icmp_gt (pc := 8) (tgt := 36) hx hb dX11_asMany_8 (by decide) (fun hc => ?_) (fun hc => ?_)
  · have h := if_t hc h
    refine lv_iload_n (pc := 36) hx hb dX11_asMany_36 rfl (lv_at hl 3 rfl) ?_
    obtain rfl := so1 h
    exact bz_iret (pc := 37) X hM hr hlk dX11_asMany_37 (Nat.le_of_ble_eq_true rfl) (Nat.le_of_ble_eq_true rfl)
  · have h := if_f hc h
    refine lv_iload_n (pc := 11) hx hb dX11_asMany_11 rfl (lv_at hl 3 rfl) ?_
    refine lv_aload_n (pc := 12) hx hb dX11_asMany_12 rfl (lv_at hl 0 rfl) ?_
    obtain ⟨q1, e2, h⟩ := ob h
    refine bz_getQ (pc := 13) X hM fl_RX11_44 e2 dX11_asMany_13 ?_
    refine lv_iload (pc := 16) hx hb dX11_asMany_16 (lv_at hl 4 rfl) ?_
    obtain ⟨v3, e4, h⟩ := ob h
    refine bz_iald (pc := 18) X hM e4 dX11_asMany_18 ?_
    refine lv_iload_n (pc := 19) hx hb dX11_asMany_19 rfl (lv_at hl 2 rfl) ?_
    refine lv_icmp_lt (pc := 20) (tgt := 27) hx hb dX11_asMany_20 (by decide) (fun hc => ?_) (fun hc => ?_)
    · have h := if_t hc h
      refine lv_iconst (pc := 27) (v := (0 : Int32)) hx hb dX11_asMany_27 (by decide) ?_
      refine lv_iadd (pc := 28) hx hb dX11_asMany_28 ?_
      refine lv_istore_n (pc := 29) (lv' := [(3, .int (x3 + (0 : Int32))), (0, .ref (pB P + x0)), (1, .int x1), (2, .int x2), (4, .int x4)]) hx hb dX11_asMany_29 rfl hl (by decide) rfl (fun ls hl => ?_)
      refine lv_iinc (pc := 30) (v := (x4 + (1 : Int32))) (lv' := [(4, .int (x4 + (1 : Int32))), (3, .int (x3 + (0 : Int32))), (0, .ref (pB P + x0)), (1, .int x1), (2, .int x2)]) hx hb dX11_asMany_30 hl (k := 4) rfl rfl (by decide) rfl (fun ls hl => ?_)
      refine lv_goto (pc := 33) (tgt := 5) hx hb dX11_asMany_33 (by decide) ?_
      exact hK5 _ _ _ _ _ _ h H locs ls hM (lv_sub hl [2, 3, 4, 1, 0] rfl)
    · have h := if_f hc h
      refine lv_iconst (pc := 23) (v := (1 : Int32)) hx hb dX11_asMany_23 (by decide) ?_
      refine lv_goto (pc := 24) (tgt := 28) hx hb dX11_asMany_24 (by decide) ?_
      refine lv_iadd (pc := 28) hx hb dX11_asMany_28 ?_
      refine lv_istore_n (pc := 29) (lv' := [(3, .int (x3 + (1 : Int32))), (0, .ref (pB P + x0)), (1, .int x1), (2, .int x2), (4, .int x4)]) hx hb dX11_asMany_29 rfl hl (by decide) rfl (fun ls hl => ?_)
      refine lv_iinc (pc := 30) (v := (x4 + (1 : Int32))) (lv' := [(4, .int (x4 + (1 : Int32))), (3, .int (x3 + (1 : Int32))), (0, .ref (pB P + x0)), (1, .int x1), (2, .int x2)]) hx hb dX11_asMany_30 hl (k := 4) rfl rfl (by decide) rfl (fun ls hl => ?_)
      refine lv_goto (pc := 33) (tgt := 5) hx hb dX11_asMany_33 (by decide) ?_
      exact hK5 _ _ _ _ _ _ h H locs ls hM (lv_sub hl [2, 3, 4, 1, 0] rfl)
set_option maxHeartbeats 4000000 in
set_option maxRecDepth 100000 in
theorem wLX11_asMany_5 {p : Program} {l : Launch} {e : Env} {s : State} {m : MethodId} {args : Array Value} {below : List Frame} {meth : Method} {c : Code} {P : PT} {N : Nat}  {r9 : Int32} (hX : Cy p s m args c meth cX11_asMany 5 RX11 "asMany" (some .int) P)   : ∀ (n : Nat) (M : Mm) (x0 : Nat) (x1 : Int32) (x2 : Int32) (x3 : Int32) (x4 : Int32) , LX11_asMany_5 N n M x0 x1 x2 x3 x4 = some r9 → Wq p l e s m args below meth c 0 0 (some (.int r9)) M 5 P 0 5 [(0, .ref (pB P + x0)), (1, .int x1), (2, .int x2), (3, .int x3), (4, .int x4)] [] M := by
  intro n
  induction n with
  | zero => intro M x0 x1 x2 x3 x4 h; cases h
  | succ n ih => intro M x0 x1 x2 x3 x4 h; exact wBX11_asMany_5 hX ih M x0 x1 x2 x3 x4 h
set_option maxHeartbeats 4000000 in
set_option maxRecDepth 100000 in
theorem wX11_asMany {p : Program} {l : Launch} {e : Env} {s : State} {m : MethodId} {args : Array Value} {below : List Frame} {meth : Method} {c : Code} {P : PT} {N : Nat}  {r9 : Int32} (hX : Cy p s m args c meth cX11_asMany 5 RX11 "asMany" (some .int) P)  (M : Mm) (a0 : Nat) (a1 : Int32) (a2 : Int32) (h : fX11_asMany N M a0 a1 a2 = some r9) : Wq p l e s m args below meth c 0 0 (some (.int r9)) M 5 P 0 0 [(0, .ref (pB P + a0)), (1, .int a1), (2, .int a2)] [] M := by
  unfold fX11_asMany at h
  obtain ⟨_, _, h⟩ := ob h
  have hX0 := hX
  obtain ⟨X, hr, hlk, hnm⟩ := hX0
  have hx := X.1.1
  have hb := X.1.2.1
  intro H locs ls hM hl
  refine lv_iconst (pc := 0) (v := (0 : Int32)) hx hb dX11_asMany_0 (by decide) ?_
  refine lv_istore_n (pc := 1) (lv' := [(3, .int (0 : Int32)), (0, .ref (pB P + a0)), (1, .int a1), (2, .int a2)]) hx hb dX11_asMany_1 rfl hl (by decide) rfl (fun ls hl => ?_)
  refine lv_iconst (pc := 2) (v := (1 : Int32)) hx hb dX11_asMany_2 (by decide) ?_
  refine lv_istore (pc := 3) (lv' := [(4, .int (1 : Int32)), (3, .int (0 : Int32)), (0, .ref (pB P + a0)), (1, .int a1), (2, .int a2)]) hx hb dX11_asMany_3 hl (by decide) rfl (fun ls hl => ?_)
  exact wLX11_asMany_5 hX _ _ _ _ _ _ _ h H locs ls hM (lv_sub hl [2, 3, 4, 1, 0] rfl)
theorem rX11_asMany {N : Nat} {M : Mm} {a0 : Nat} {a1 : Int32} {a2 : Int32} {r9 : Int32} (h : fX11_asMany N M a0 a1 a2 = some r9) : ∃ fs, M[a0]? = some (.inr (11, fs)) := by
  unfold fX11_asMany at h
  obtain ⟨_, e1, _⟩ := ob h
  exact gC_spec e1
theorem ctX11_asMany (l : Launch) {P : PT} {N : Nat} {M : Mm} {a0 : Nat} {a1 : Int32} {a2 : Int32} {r9 : Int32} (h : fX11_asMany N M a0 a1 a2 = some r9) : Ct l yX11_asMany cX11_asMany 5 (some .int) 0 0 P [.ref (pB P + a0), .int a1, .int a2] M (some (.int r9)) M :=
  Ct.mk (by decide +kernel) (Nat.le_of_ble_eq_true rfl) (fun p e s m args below meth c hX => wX11_asMany hX M a0 a1 a2 h)
set_option maxHeartbeats 4000000 in
set_option maxRecDepth 100000 in
theorem wBX11_ahead_76 {p : Program} {l : Launch} {e : Env} {s : State} {m : MethodId} {args : Array Value} {below : List Frame} {meth : Method} {c : Code} {P : PT} {N : Nat} {K76 : Mm → Nat → Int32 → Int32 → Int32 → Option (Int32 × Mm)}  {r9 : Int32} {M9 : Mm} (hX : Cy p s m args c meth cX11_ahead 5 RX11 "ahead" (some .int) P)  (hK76 : ∀ (M : Mm) (x0 : Nat) (x2 : Int32) (x3 : Int32) (x4 : Int32), K76 M x0 x2 x3 x4 = some (r9, M9) → Wq p l e s m args below meth c 5 0 (some (.int r9)) M9 5 P 0 76 [(0, .ref (pB P + x0)), (2, .int x2), (3, .int x3), (4, .int x4)] [] M) (M : Mm) (x0 : Nat) (x2 : Int32) (x3 : Int32) (x4 : Int32)  (h : BX11_ahead_76 N K76 M x0 x2 x3 x4 = some (r9, M9)) : Wq p l e s m args below meth c 5 0 (some (.int r9)) M9 5 P 0 76 [(0, .ref (pB P + x0)), (2, .int x2), (3, .int x3), (4, .int x4)] [] M := by
  unfold BX11_ahead_76 at h
  have hX0 := hX
  obtain ⟨X, hr, hlk, hnm⟩ := hX0
  have hx := X.1.1
  have hb := X.1.2.1
  intro H locs ls hM hl
  refine lv_bipush (pc := 76) (v := (100 : Int32)) hx hb dX11_ahead_76 (by decide) ?_
  refine lv_aload_n (pc := 78) hx hb dX11_ahead_78 rfl (lv_at hl 0 rfl) ?_
  refine lv_iload_n (pc := 79) hx hb dX11_ahead_79 rfl (lv_at hl 1 rfl) ?_
  refine lv_iload (pc := 80) hx hb dX11_ahead_80 (lv_at hl 3 rfl) ?_
  obtain ⟨v2, e1, h⟩ := ob h
  obtain ⟨fs3, hb4⟩ := (rX11_asMany e1)
  refine bz_callV1 (pc := 82) (As := [.int x2, .int x4]) (rest := [.int (100 : Int32)]) X hM hl.1 k_RX11_263 (ctX11_asMany l e1) rfl hb4 rfl rfl ⟨(Nat.le_of_ble_eq_true rfl), (Nat.le_of_ble_eq_true rfl)⟩ (Nat.le_of_ble_eq_true rfl) ⟨(Nat.le_of_ble_eq_true rfl), (Nat.le_of_ble_eq_true rfl)⟩ dX11_ahead_82 (fun H locs hM => ?_)
  refine lv_imul (pc := 85) hx hb dX11_ahead_85 ?_
  refine lv_iload_n (pc := 86) hx hb dX11_ahead_86 rfl (lv_at hl 2 rfl) ?_
  refine lv_iload_n (pc := 87) hx hb dX11_ahead_87 rfl (lv_at hl 1 rfl) ?_
  refine lv_imul (pc := 88) hx hb dX11_ahead_88 ?_
  refine lv_icmp_le (pc := 89) (tgt := 98) hx hb dX11_ahead_89 (by decide) (fun hc => ?_) (fun hc => ?_)
  · have h := if_t hc h
    refine lv_iload (pc := 98) hx hb dX11_ahead_98 (lv_at hl 3 rfl) ?_
    obtain ⟨rfl, rfl⟩ := so2 h
    exact bz_iret (pc := 100) X hM hr hlk dX11_ahead_100 (Nat.le_of_ble_eq_true rfl) (Nat.le_of_ble_eq_true rfl)
  · have h := if_f hc h
    refine lv_iinc (pc := 92) (v := (x4 + (1 : Int32))) (lv' := [(4, .int (x4 + (1 : Int32))), (0, .ref (pB P + x0)), (2, .int x2), (3, .int x3)]) hx hb dX11_ahead_92 hl (k := 3) rfl rfl (by decide) rfl (fun ls hl => ?_)
    refine lv_goto (pc := 95) (tgt := 76) hx hb dX11_ahead_95 (by decide) ?_
    exact hK76 _ _ _ _ _ h H locs ls hM (lv_sub hl [1, 2, 3, 0] rfl)
set_option maxHeartbeats 4000000 in
set_option maxRecDepth 100000 in
theorem wLX11_ahead_76 {p : Program} {l : Launch} {e : Env} {s : State} {m : MethodId} {args : Array Value} {below : List Frame} {meth : Method} {c : Code} {P : PT} {N : Nat}  {r9 : Int32} {M9 : Mm} (hX : Cy p s m args c meth cX11_ahead 5 RX11 "ahead" (some .int) P)   : ∀ (n : Nat) (M : Mm) (x0 : Nat) (x2 : Int32) (x3 : Int32) (x4 : Int32) , LX11_ahead_76 N n M x0 x2 x3 x4 = some (r9, M9) → Wq p l e s m args below meth c 5 0 (some (.int r9)) M9 5 P 0 76 [(0, .ref (pB P + x0)), (2, .int x2), (3, .int x3), (4, .int x4)] [] M := by
  intro n
  induction n with
  | zero => intro M x0 x2 x3 x4 h; cases h
  | succ n ih => intro M x0 x2 x3 x4 h; exact wBX11_ahead_76 hX ih M x0 x2 x3 x4 h
set_option maxHeartbeats 4000000 in
set_option maxRecDepth 100000 in
theorem wBX11_ahead_34 {p : Program} {l : Launch} {e : Env} {s : State} {m : MethodId} {args : Array Value} {below : List Frame} {meth : Method} {c : Code} {P : PT} {N : Nat} {K34 : Mm → Nat → Int32 → Int32 → Int32 → Int32 → Option (Int32 × Mm)}  {r9 : Int32} {M9 : Mm} (hX : Cy p s m args c meth cX11_ahead 5 RX11 "ahead" (some .int) P)  (hK34 : ∀ (M : Mm) (x0 : Nat) (x1 : Int32) (x2 : Int32) (x3 : Int32) (x4 : Int32), K34 M x0 x1 x2 x3 x4 = some (r9, M9) → Wq p l e s m args below meth c 5 0 (some (.int r9)) M9 5 P 0 34 [(0, .ref (pB P + x0)), (1, .int x1), (2, .int x2), (3, .int x3), (4, .int x4)] [] M) (M : Mm) (x0 : Nat) (x1 : Int32) (x2 : Int32) (x3 : Int32) (x4 : Int32)  (h : BX11_ahead_34 N K34 M x0 x1 x2 x3 x4 = some (r9, M9)) : Wq p l e s m args below meth c 5 0 (some (.int r9)) M9 5 P 0 34 [(0, .ref (pB P + x0)), (1, .int x1), (2, .int x2), (3, .int x3), (4, .int x4)] [] M := by
  unfold BX11_ahead_34 at h
  have hX0 := hX
  obtain ⟨X, hr, hlk, hnm⟩ := hX0
  have hx := X.1.1
  have hb := X.1.2.1
  intro H locs ls hM hl
  refine lv_iload (pc := 34) hx hb dX11_ahead_34 (lv_at hl 4 rfl) ?_
  refine lv_iload_n (pc := 36) hx hb dX11_ahead_36 rfl (lv_at hl 2 rfl) ?_
  refine lv_icmp_gt (pc := 37) (tgt := 73) hx hb dX11_ahead_37 (by decide) (fun hc => ?_) (fun hc => ?_)
  · have h := if_t hc h
    refine lv_iconst (pc := 73) (v := (0 : Int32)) hx hb dX11_ahead_73 (by decide) ?_
    refine lv_istore (pc := 74) (lv' := [(4, .int (0 : Int32)), (0, .ref (pB P + x0)), (1, .int x1), (2, .int x2), (3, .int x3)]) hx hb dX11_ahead_74 hl (by decide) rfl (fun ls hl => ?_)
    exact wLX11_ahead_76 hX _ _ _ _ _ _ h H locs ls hM (lv_sub hl [1, 3, 4, 0] rfl)
  · have h := if_f hc h
    refine lv_aload_n (pc := 40) hx hb dX11_ahead_40 rfl (lv_at hl 0 rfl) ?_
    obtain ⟨q1, e2, h⟩ := ob h
    refine bz_getQ (pc := 41) X hM fl_RX11_44 e2 dX11_ahead_41 ?_
    refine lv_iload (pc := 44) hx hb dX11_ahead_44 (lv_at hl 4 rfl) ?_
    refine lv_aload_n (pc := 46) hx hb dX11_ahead_46 rfl (lv_at hl 0 rfl) ?_
    refine lv_iload_n (pc := 47) hx hb dX11_ahead_47 rfl (lv_at hl 1 rfl) ?_
    refine lv_aload_n (pc := 48) hx hb dX11_ahead_48 rfl (lv_at hl 0 rfl) ?_
    refine lv_iload_n (pc := 49) hx hb dX11_ahead_49 rfl (lv_at hl 1 rfl) ?_
    refine lv_iconst (pc := 50) (v := (2 : Int32)) hx hb dX11_ahead_50 (by decide) ?_
    obtain ⟨v4, e3, h⟩ := ob h
    obtain ⟨fs5, hb6⟩ := (rX11_of e3)
    refine bz_callV1 (pc := 51) (As := [.int x1, .int (2 : Int32)]) (rest := [.int x1, .ref (pB P + x0), .int x4, .ref (pB P + q1)]) X hM hl.1 k_RX11_222 (ctX11_of l e3) rfl hb6 rfl rfl ⟨(Nat.le_of_ble_eq_true rfl), (Nat.le_of_ble_eq_true rfl)⟩ (Nat.le_of_ble_eq_true rfl) ⟨(Nat.le_of_ble_eq_true rfl), (Nat.le_of_ble_eq_true rfl)⟩ dX11_ahead_51 (fun H locs hM => ?_)
    refine lv_iload (pc := 54) hx hb dX11_ahead_54 (lv_at hl 4 rfl) ?_
    refine lv_aload_n (pc := 56) hx hb dX11_ahead_56 rfl (lv_at hl 0 rfl) ?_
    refine lv_iload_n (pc := 57) hx hb dX11_ahead_57 rfl (lv_at hl 1 rfl) ?_
    refine lv_iconst (pc := 58) (v := (4 : Int32)) hx hb dX11_ahead_58 (by decide) ?_
    obtain ⟨v8, e7, h⟩ := ob h
    obtain ⟨fs9, hb10⟩ := (rX11_of e7)
    refine bz_callV1 (pc := 59) (As := [.int x1, .int (4 : Int32)]) (rest := [.int x4, .int v4, .int x1, .ref (pB P + x0), .int x4, .ref (pB P + q1)]) X hM hl.1 k_RX11_222 (ctX11_of l e7) rfl hb10 rfl rfl ⟨(Nat.le_of_ble_eq_true rfl), (Nat.le_of_ble_eq_true rfl)⟩ (Nat.le_of_ble_eq_true rfl) ⟨(Nat.le_of_ble_eq_true rfl), (Nat.le_of_ble_eq_true rfl)⟩ dX11_ahead_59 (fun H locs hM => ?_)
    refine lv_imul (pc := 62) hx hb dX11_ahead_62 ?_
    obtain ⟨v12, e11, h⟩ := ob h
    obtain ⟨fs13, hb14⟩ := (rX11_slid e11)
    refine bz_callV1 (pc := 63) (As := [.int x1, .int v4, .int (x4 * v8)]) (rest := [.int x4, .ref (pB P + q1)]) X hM hl.1 k_RX11_228 (ctX11_slid l e11) rfl hb14 rfl rfl ⟨(Nat.le_of_ble_eq_true rfl), (Nat.le_of_ble_eq_true rfl)⟩ (Nat.le_of_ble_eq_true rfl) ⟨(Nat.le_of_ble_eq_true rfl), (Nat.le_of_ble_eq_true rfl)⟩ dX11_ahead_63 (fun H locs hM => ?_)
    obtain ⟨M15, e16, h⟩ := ob h
    refine bz_iast (pc := 66) X hM e16 dX11_ahead_66 (fun H locs hM => ?_)
    refine lv_iinc (pc := 67) (v := (x4 + (1 : Int32))) (lv' := [(4, .int (x4 + (1 : Int32))), (0, .ref (pB P + x0)), (1, .int x1), (2, .int x2), (3, .int x3)]) hx hb dX11_ahead_67 hl (k := 4) rfl rfl (by decide) rfl (fun ls hl => ?_)
    refine lv_goto (pc := 70) (tgt := 34) hx hb dX11_ahead_70 (by decide) ?_
    exact hK34 _ _ _ _ _ _ h H locs ls hM (lv_sub hl [1, 2, 3, 4, 0] rfl)
set_option maxHeartbeats 4000000 in
set_option maxRecDepth 100000 in
theorem wLX11_ahead_34 {p : Program} {l : Launch} {e : Env} {s : State} {m : MethodId} {args : Array Value} {below : List Frame} {meth : Method} {c : Code} {P : PT} {N : Nat}  {r9 : Int32} {M9 : Mm} (hX : Cy p s m args c meth cX11_ahead 5 RX11 "ahead" (some .int) P)   : ∀ (n : Nat) (M : Mm) (x0 : Nat) (x1 : Int32) (x2 : Int32) (x3 : Int32) (x4 : Int32) , LX11_ahead_34 N n M x0 x1 x2 x3 x4 = some (r9, M9) → Wq p l e s m args below meth c 5 0 (some (.int r9)) M9 5 P 0 34 [(0, .ref (pB P + x0)), (1, .int x1), (2, .int x2), (3, .int x3), (4, .int x4)] [] M := by
  intro n
  induction n with
  | zero => intro M x0 x1 x2 x3 x4 h; cases h
  | succ n ih => intro M x0 x1 x2 x3 x4 h; exact wBX11_ahead_34 hX ih M x0 x1 x2 x3 x4 h
set_option maxHeartbeats 4000000 in
set_option maxRecDepth 100000 in
theorem wjX11_ahead_21 {p : Program} {l : Launch} {e : Env} {s : State} {m : MethodId} {args : Array Value} {below : List Frame} {meth : Method} {c : Code} {P : PT} {N : Nat}  {r9 : Int32} {M9 : Mm} (hX : Cy p s m args c meth cX11_ahead 5 RX11 "ahead" (some .int) P)   (M : Mm) (x0 : Nat)  (h : jX11_ahead_21 N M x0 = some (r9, M9)) : Wq p l e s m args below meth c 5 0 (some (.int r9)) M9 5 P 0 21 [(0, .ref (pB P + x0))] [] M := by
  unfold jX11_ahead_21 at h
  have hX0 := hX
  obtain ⟨X, hr, hlk, hnm⟩ := hX0
  have hx := X.1.1
  have hb := X.1.2.1
  intro H locs ls hM hl
  refine lv_aload_n (pc := 21) hx hb dX11_ahead_21 rfl (lv_at hl 0 rfl) ?_
  refine lv_iconst (pc := 22) (v := (1 : Int32)) hx hb dX11_ahead_22 (by decide) ?_
  obtain ⟨v2, M3, e1, h⟩ := ob2 h
  obtain ⟨fs4, hb5⟩ := (rX11_error e1)
  refine bz_callV1 (pc := 23) (As := [.int (1 : Int32)]) (rest := []) X hM hl.1 k_RX11_73 (ctX11_error l e1) rfl hb5 rfl rfl ⟨(Nat.le_of_ble_eq_true rfl), (Nat.le_of_ble_eq_true rfl)⟩ (Nat.le_of_ble_eq_true rfl) ⟨(Nat.le_of_ble_eq_true rfl), (Nat.le_of_ble_eq_true rfl)⟩ dX11_ahead_23 (fun H locs hM => ?_)
  obtain ⟨rfl, rfl⟩ := so2 h
  exact bz_iret (pc := 26) X hM hr hlk dX11_ahead_26 (Nat.le_of_ble_eq_true rfl) (Nat.le_of_ble_eq_true rfl)
set_option maxHeartbeats 4000000 in
set_option maxRecDepth 100000 in
theorem wX11_ahead {p : Program} {l : Launch} {e : Env} {s : State} {m : MethodId} {args : Array Value} {below : List Frame} {meth : Method} {c : Code} {P : PT} {N : Nat}  {r9 : Int32} {M9 : Mm} (hX : Cy p s m args c meth cX11_ahead 5 RX11 "ahead" (some .int) P)  (M : Mm) (a0 : Nat) (a1 : Int32) (a2 : Int32) (a3 : Int32) (h : fX11_ahead N M a0 a1 a2 a3 = some (r9, M9)) : Wq p l e s m args below meth c 5 0 (some (.int r9)) M9 5 P 0 0 [(0, .ref (pB P + a0)), (1, .int a1), (2, .int a2), (3, .int a3)] [] M := by
  unfold fX11_ahead at h
  obtain ⟨_, _, h⟩ := ob h
  have hX0 := hX
  obtain ⟨X, hr, hlk, hnm⟩ := hX0
  have hx := X.1.1
  have hb := X.1.2.1
  intro H locs ls hM hl
  refine lv_aload_n (pc := 0) hx hb dX11_ahead_0 rfl (lv_at hl 0 rfl) ?_
  refine lv_iload_n (pc := 1) hx hb dX11_ahead_1 rfl (lv_at hl 1 rfl) ?_
  refine lv_iload_n (pc := 2) hx hb dX11_ahead_2 rfl (lv_at hl 2 rfl) ?_
  obtain ⟨v2, e1, h⟩ := ob h
  obtain ⟨fs3, hb4⟩ := (rX11_isAsked e1)
  refine bz_callV1 (pc := 3) (As := [.int a1, .int a2]) (rest := []) X hM hl.1 k_RX11_255 (ctX11_isAsked l e1) rfl hb4 rfl rfl ⟨(Nat.le_of_ble_eq_true rfl), (Nat.le_of_ble_eq_true rfl)⟩ (Nat.le_of_ble_eq_true rfl) ⟨(Nat.le_of_ble_eq_true rfl), (Nat.le_of_ble_eq_true rfl)⟩ dX11_ahead_3 (fun H locs hM => ?_)
  refine lv_if_eq (pc := 6) (tgt := 21) hx hb dX11_ahead_6 (by decide) (fun hc => ?_) (fun hc => ?_)
  · have h := if_t hc h
    exact wjX11_ahead_21 hX _ _ h H locs ls hM (lv_sub hl [0] rfl)
  · have h := if_f hc h
    refine lv_iload_n (pc := 9) hx hb dX11_ahead_9 rfl (lv_at hl 3 rfl) ?_
    refine lv_i2l (pc := 10) (v := ((a3).toInt64)) hx hb dX11_ahead_10 rfl ?_
    refine lv_lconst (pc := 11) (v := (0 : Int64)) hx hb dX11_ahead_11 (by decide) ?_
    refine lv_ldc2 (pc := 12) (v := (100 : Int64)) hx hb X.1.2.2.2.1 (X.1.2.2.2.2 _ g_1526) dX11_ahead_12 ?_
    obtain ⟨v6, e5, h⟩ := ob h
    refine bz_callS1 (pc := 15) (As := [.long ((a3).toInt64), .long (0 : Int64), .long (100 : Int64)]) (rest := []) X hM hl.1 k_RX11_57 (ctX11_in l e5) rfl rfl ⟨(Nat.le_of_ble_eq_true rfl), (Nat.le_of_ble_eq_true rfl)⟩ (Nat.le_of_ble_eq_true rfl) ⟨(Nat.le_of_ble_eq_true rfl), (Nat.le_of_ble_eq_true rfl)⟩ dX11_ahead_15 (fun H locs hM => ?_)
    refine lv_if_ne (pc := 18) (tgt := 27) hx hb dX11_ahead_18 (by decide) (fun hc => ?_) (fun hc => ?_)
    · have h := if_f hc h
      refine lv_aload_n (pc := 27) hx hb dX11_ahead_27 rfl (lv_at hl 0 rfl) ?_
      obtain ⟨M8, e7, h⟩ := ob h
      obtain ⟨fs9, hb10⟩ := (rX11_readAll e7)
      refine bz_callV0 (pc := 28) (As := []) (rest := []) X hM hl.1 k_RX11_120 (ctX11_readAll l e7) rfl hb10 rfl rfl ⟨(Nat.le_of_ble_eq_true rfl), (Nat.le_of_ble_eq_true rfl)⟩ (Nat.le_of_ble_eq_true rfl) ⟨(Nat.le_of_ble_eq_true rfl), (Nat.le_of_ble_eq_true rfl)⟩ dX11_ahead_28 (fun H locs hM => ?_)
      refine lv_iconst (pc := 31) (v := (1 : Int32)) hx hb dX11_ahead_31 (by decide) ?_
      refine lv_istore (pc := 32) (lv' := [(4, .int (1 : Int32)), (0, .ref (pB P + a0)), (1, .int a1), (2, .int a2), (3, .int a3)]) hx hb dX11_ahead_32 hl (by decide) rfl (fun ls hl => ?_)
      exact wLX11_ahead_34 hX _ _ _ _ _ _ _ h H locs ls hM (lv_sub hl [1, 2, 3, 4, 0] rfl)
    · have h := if_t hc h
      exact wjX11_ahead_21 hX _ _ h H locs ls hM (lv_sub hl [0] rfl)
theorem rX11_ahead {N : Nat} {M : Mm} {a0 : Nat} {a1 : Int32} {a2 : Int32} {a3 : Int32} {r9 : Int32 × Mm} (h : fX11_ahead N M a0 a1 a2 a3 = some r9) : ∃ fs, M[a0]? = some (.inr (11, fs)) := by
  unfold fX11_ahead at h
  obtain ⟨_, e1, _⟩ := ob h
  exact gC_spec e1
theorem ctX11_ahead (l : Launch) {P : PT} {N : Nat} {M : Mm} {a0 : Nat} {a1 : Int32} {a2 : Int32} {a3 : Int32} {r9 : Int32} {M9 : Mm} (h : fX11_ahead N M a0 a1 a2 a3 = some (r9, M9)) : Ct l yX11_ahead cX11_ahead 5 (some .int) 5 0 P [.ref (pB P + a0), .int a1, .int a2, .int a3] M (some (.int r9)) M9 :=
  Ct.mk (by decide +kernel) (Nat.le_of_ble_eq_true rfl) (fun p e s m args below meth c hX => wX11_ahead hX M a0 a1 a2 a3 h)
set_option maxHeartbeats 4000000 in
set_option maxRecDepth 100000 in
theorem wX10_line {p : Program} {l : Launch} {e : Env} {s : State} {m : MethodId} {args : Array Value} {below : List Frame} {meth : Method} {c : Code} {P : PT}  {r9 : Int32} {M9 : Mm} (hX : Cy p s m args c meth cX10_line 2 RX10 "line" (some .int) P)  (M : Mm) (a0 : Nat) (a1 : Int32) (h : fX10_line M a0 a1 = some (r9, M9)) : Wq p l e s m args below meth c 3 0 (some (.int r9)) M9 2 P 0 0 [(0, .ref (pB P + a0)), (1, .int a1)] [] M := by
  unfold fX10_line at h
  obtain ⟨_, _, h⟩ := ob h
  have hX0 := hX
  obtain ⟨X, hr, hlk, hnm⟩ := hX0
  have hx := X.1.1
  have hb := X.1.2.1
  intro H locs ls hM hl
  refine lv_iload_n (pc := 0) hx hb dX10_line_0 rfl (lv_at hl 1 rfl) ?_
  obtain ⟨v2, e1, h⟩ := ob h
  refine bz_callS1 (pc := 1) (As := [.int a1]) (rest := []) X hM hl.1 k_RX10_145 (ctX10_isLine l e1) rfl rfl ⟨(Nat.le_of_ble_eq_true rfl), (Nat.le_of_ble_eq_true rfl)⟩ (Nat.le_of_ble_eq_true rfl) ⟨(Nat.le_of_ble_eq_true rfl), (Nat.le_of_ble_eq_true rfl)⟩ dX10_line_1 (fun H locs hM => ?_)
  refine lv_if_ne (pc := 4) (tgt := 13) hx hb dX10_line_4 (by decide) (fun hc => ?_) (fun hc => ?_)
  · have h := if_f hc h
    refine lv_aload_n (pc := 13) hx hb dX10_line_13 rfl (lv_at hl 0 rfl) ?_
    obtain ⟨q3, e4, h⟩ := ob h
    refine bz_getQ (pc := 14) X hM fl_RX10_10 e4 dX10_line_14 ?_
    obtain ⟨q5, e6, h⟩ := ob h
    refine bz_getQ (pc := 17) X hM fl_RX10_280 e6 dX10_line_17 ?_
    refine lv_iload_n (pc := 20) hx hb dX10_line_20 rfl (lv_at hl 1 rfl) ?_
    obtain ⟨v8, M9, e7, h⟩ := ob2 h
    obtain ⟨fs10, hb11⟩ := (rX3_add e7)
    refine bz_callV1 (pc := 21) (As := [.int a1]) (rest := []) X hM hl.1 k_RX10_92 (ctX3_add l e7) rfl hb11 rfl rfl ⟨(Nat.le_of_ble_eq_true rfl), (Nat.le_of_ble_eq_true rfl)⟩ (Nat.le_of_ble_eq_true rfl) ⟨(Nat.le_of_ble_eq_true rfl), (Nat.le_of_ble_eq_true rfl)⟩ dX10_line_21 (fun H locs hM => ?_)
    refine lv_if_ne (pc := 24) (tgt := 33) hx hb dX10_line_24 (by decide) (fun hc => ?_) (fun hc => ?_)
    · have h := if_f hc h
      refine lv_aload_n (pc := 33) hx hb dX10_line_33 rfl (lv_at hl 0 rfl) ?_
      obtain ⟨q12, e13, h⟩ := ob h
      refine bz_getQ (pc := 34) X hM fl_RX10_10 e13 dX10_line_34 ?_
      obtain ⟨q14, e15, h⟩ := ob h
      refine bz_getQ (pc := 37) X hM fl_RX10_280 e15 dX10_line_37 ?_
      obtain ⟨v17, e16, h⟩ := ob h
      obtain ⟨fs18, hb19⟩ := (rX3_size e16)
      refine bz_callV1 (pc := 40) (As := []) (rest := []) X hM hl.1 k_RX10_96 (ctX3_size l e16) rfl hb19 rfl rfl ⟨(Nat.le_of_ble_eq_true rfl), (Nat.le_of_ble_eq_true rfl)⟩ (Nat.le_of_ble_eq_true rfl) ⟨(Nat.le_of_ble_eq_true rfl), (Nat.le_of_ble_eq_true rfl)⟩ dX10_line_40 (fun H locs hM => ?_)
      refine lv_iconst (pc := 43) (v := (1 : Int32)) hx hb dX10_line_43 (by decide) ?_
      refine lv_isub (pc := 44) hx hb dX10_line_44 ?_
      obtain ⟨rfl, rfl⟩ := so2 h
      exact bz_iret (pc := 45) X hM hr hlk dX10_line_45 (Nat.le_of_ble_eq_true rfl) (Nat.le_of_ble_eq_true rfl)
    · have h := if_t hc h
      refine lv_aload_n (pc := 27) hx hb dX10_line_27 rfl (lv_at hl 0 rfl) ?_
      refine lv_iconst (pc := 28) (v := (4 : Int32)) hx hb dX10_line_28 (by decide) ?_
      obtain ⟨v21, M22, e20, h⟩ := ob2 h
      obtain ⟨fs23, hb24⟩ := (rX10_error e20)
      refine bz_callV1 (pc := 29) (As := [.int (4 : Int32)]) (rest := []) X hM hl.1 k_RX10_78 (ctX10_error l e20) rfl hb24 rfl rfl ⟨(Nat.le_of_ble_eq_true rfl), (Nat.le_of_ble_eq_true rfl)⟩ (Nat.le_of_ble_eq_true rfl) ⟨(Nat.le_of_ble_eq_true rfl), (Nat.le_of_ble_eq_true rfl)⟩ dX10_line_29 (fun H locs hM => ?_)
      obtain ⟨rfl, rfl⟩ := so2 h
      exact bz_iret (pc := 32) X hM hr hlk dX10_line_32 (Nat.le_of_ble_eq_true rfl) (Nat.le_of_ble_eq_true rfl)
  · have h := if_t hc h
    refine lv_aload_n (pc := 7) hx hb dX10_line_7 rfl (lv_at hl 0 rfl) ?_
    refine lv_iconst (pc := 8) (v := (1 : Int32)) hx hb dX10_line_8 (by decide) ?_
    obtain ⟨v26, M27, e25, h⟩ := ob2 h
    obtain ⟨fs28, hb29⟩ := (rX10_error e25)
    refine bz_callV1 (pc := 9) (As := [.int (1 : Int32)]) (rest := []) X hM hl.1 k_RX10_78 (ctX10_error l e25) rfl hb29 rfl rfl ⟨(Nat.le_of_ble_eq_true rfl), (Nat.le_of_ble_eq_true rfl)⟩ (Nat.le_of_ble_eq_true rfl) ⟨(Nat.le_of_ble_eq_true rfl), (Nat.le_of_ble_eq_true rfl)⟩ dX10_line_9 (fun H locs hM => ?_)
    obtain ⟨rfl, rfl⟩ := so2 h
    exact bz_iret (pc := 12) X hM hr hlk dX10_line_12 (Nat.le_of_ble_eq_true rfl) (Nat.le_of_ble_eq_true rfl)
theorem rX10_line {M : Mm} {a0 : Nat} {a1 : Int32} {r9 : Int32 × Mm} (h : fX10_line M a0 a1 = some r9) : ∃ fs, M[a0]? = some (.inr (10, fs)) := by
  unfold fX10_line at h
  obtain ⟨_, e1, _⟩ := ob h
  exact gC_spec e1
theorem ctX10_line (l : Launch) {P : PT} {M : Mm} {a0 : Nat} {a1 : Int32} {r9 : Int32} {M9 : Mm} (h : fX10_line M a0 a1 = some (r9, M9)) : Ct l yX10_line cX10_line 2 (some .int) 3 0 P [.ref (pB P + a0), .int a1] M (some (.int r9)) M9 :=
  Ct.mk (by decide +kernel) (Nat.le_of_ble_eq_true rfl) (fun p e s m args below meth c hX => wX10_line hX M a0 a1 h)
set_option maxHeartbeats 4000000 in
set_option maxRecDepth 100000 in
theorem wX11_line {p : Program} {l : Launch} {e : Env} {s : State} {m : MethodId} {args : Array Value} {below : List Frame} {meth : Method} {c : Code} {P : PT}  {r9 : Int32} {M9 : Mm} (hX : Cy p s m args c meth cX11_line 2 RX11 "line" (some .int) P)  (M : Mm) (a0 : Nat) (a1 : Int32) (h : fX11_line M a0 a1 = some (r9, M9)) : Wq p l e s m args below meth c 2 0 (some (.int r9)) M9 2 P 0 0 [(0, .ref (pB P + a0)), (1, .int a1)] [] M := by
  unfold fX11_line at h
  obtain ⟨_, _, h⟩ := ob h
  have hX0 := hX
  obtain ⟨X, hr, hlk, hnm⟩ := hX0
  have hx := X.1.1
  have hb := X.1.2.1
  intro H locs ls hM hl
  refine lv_iload_n (pc := 0) hx hb dX11_line_0 rfl (lv_at hl 1 rfl) ?_
  obtain ⟨v2, e1, h⟩ := ob h
  refine bz_callS1 (pc := 1) (As := [.int a1]) (rest := []) X hM hl.1 k_RX11_117 (ctX11_isLine l e1) rfl rfl ⟨(Nat.le_of_ble_eq_true rfl), (Nat.le_of_ble_eq_true rfl)⟩ (Nat.le_of_ble_eq_true rfl) ⟨(Nat.le_of_ble_eq_true rfl), (Nat.le_of_ble_eq_true rfl)⟩ dX11_line_1 (fun H locs hM => ?_)
  refine lv_if_ne (pc := 4) (tgt := 13) hx hb dX11_line_4 (by decide) (fun hc => ?_) (fun hc => ?_)
  · have h := if_f hc h
    refine lv_aload_n (pc := 13) hx hb dX11_line_13 rfl (lv_at hl 0 rfl) ?_
    obtain ⟨q3, e4, h⟩ := ob h
    refine bz_getQ (pc := 14) X hM fl_RX11_9 e4 dX11_line_14 ?_
    refine lv_iconst (pc := 17) (v := (3 : Int32)) hx hb dX11_line_17 (by decide) ?_
    obtain ⟨v5, e6, h⟩ := ob h
    refine bz_iald (pc := 18) X hM e6 dX11_line_18 ?_
    refine lv_bipush (pc := 19) (v := (6 : Int32)) hx hb dX11_line_19 (by decide) ?_
    refine lv_icmp_ne (pc := 21) (tgt := 30) hx hb dX11_line_21 (by decide) (fun hc => ?_) (fun hc => ?_)
    · have h := if_f hc h
      refine lv_aload_n (pc := 30) hx hb dX11_line_30 rfl (lv_at hl 0 rfl) ?_
      obtain ⟨q7, e8, h⟩ := ob h
      refine bz_getQ (pc := 31) X hM fl_RX11_9 e8 dX11_line_31 ?_
      refine lv_sipush (pc := 34) (v := (366 : Int32)) hx hb dX11_line_34 (by decide) ?_
      refine lv_aload_n (pc := 37) hx hb dX11_line_37 rfl (lv_at hl 0 rfl) ?_
      obtain ⟨q9, e10, h⟩ := ob h
      refine bz_getQ (pc := 38) X hM fl_RX11_9 e10 dX11_line_38 ?_
      refine lv_iconst (pc := 41) (v := (3 : Int32)) hx hb dX11_line_41 (by decide) ?_
      obtain ⟨v11, e12, h⟩ := ob h
      refine bz_iald (pc := 42) X hM e12 dX11_line_42 ?_
      refine lv_iadd (pc := 43) hx hb dX11_line_43 ?_
      refine lv_iload_n (pc := 44) hx hb dX11_line_44 rfl (lv_at hl 1 rfl) ?_
      obtain ⟨M13, e14, h⟩ := ob h
      refine bz_iast (pc := 45) X hM e14 dX11_line_45 (fun H locs hM => ?_)
      refine lv_aload_n (pc := 46) hx hb dX11_line_46 rfl (lv_at hl 0 rfl) ?_
      obtain ⟨q15, e16, h⟩ := ob h
      refine bz_getQ (pc := 47) X hM fl_RX11_9 e16 dX11_line_47 ?_
      refine lv_iconst (pc := 50) (v := (3 : Int32)) hx hb dX11_line_50 (by decide) ?_
      refine lv_dup2_11 (pc := 51) hx hb dX11_line_51 rfl rfl ?_
      obtain ⟨v17, e18, h⟩ := ob h
      refine bz_iald (pc := 52) X hM e18 dX11_line_52 ?_
      refine lv_iconst (pc := 53) (v := (1 : Int32)) hx hb dX11_line_53 (by decide) ?_
      refine lv_iadd (pc := 54) hx hb dX11_line_54 ?_
      obtain ⟨M19, e20, h⟩ := ob h
      refine bz_iast (pc := 55) X hM e20 dX11_line_55 (fun H locs hM => ?_)
      refine lv_aload_n (pc := 56) hx hb dX11_line_56 rfl (lv_at hl 0 rfl) ?_
      obtain ⟨q21, e22, h⟩ := ob h
      refine bz_getQ (pc := 57) X hM fl_RX11_9 e22 dX11_line_57 ?_
      refine lv_iconst (pc := 60) (v := (3 : Int32)) hx hb dX11_line_60 (by decide) ?_
      obtain ⟨v23, e24, h⟩ := ob h
      refine bz_iald (pc := 61) X hM e24 dX11_line_61 ?_
      refine lv_iconst (pc := 62) (v := (1 : Int32)) hx hb dX11_line_62 (by decide) ?_
      refine lv_isub (pc := 63) hx hb dX11_line_63 ?_
      obtain ⟨rfl, rfl⟩ := so2 h
      exact bz_iret (pc := 64) X hM hr hlk dX11_line_64 (Nat.le_of_ble_eq_true rfl) (Nat.le_of_ble_eq_true rfl)
    · have h := if_t hc h
      refine lv_aload_n (pc := 24) hx hb dX11_line_24 rfl (lv_at hl 0 rfl) ?_
      refine lv_iconst (pc := 25) (v := (4 : Int32)) hx hb dX11_line_25 (by decide) ?_
      obtain ⟨v26, M27, e25, h⟩ := ob2 h
      obtain ⟨fs28, hb29⟩ := (rX11_error e25)
      refine bz_callV1 (pc := 26) (As := [.int (4 : Int32)]) (rest := []) X hM hl.1 k_RX11_73 (ctX11_error l e25) rfl hb29 rfl rfl ⟨(Nat.le_of_ble_eq_true rfl), (Nat.le_of_ble_eq_true rfl)⟩ (Nat.le_of_ble_eq_true rfl) ⟨(Nat.le_of_ble_eq_true rfl), (Nat.le_of_ble_eq_true rfl)⟩ dX11_line_26 (fun H locs hM => ?_)
      obtain ⟨rfl, rfl⟩ := so2 h
      exact bz_iret (pc := 29) X hM hr hlk dX11_line_29 (Nat.le_of_ble_eq_true rfl) (Nat.le_of_ble_eq_true rfl)
  · have h := if_t hc h
    refine lv_aload_n (pc := 7) hx hb dX11_line_7 rfl (lv_at hl 0 rfl) ?_
    refine lv_iconst (pc := 8) (v := (1 : Int32)) hx hb dX11_line_8 (by decide) ?_
    obtain ⟨v31, M32, e30, h⟩ := ob2 h
    obtain ⟨fs33, hb34⟩ := (rX11_error e30)
    refine bz_callV1 (pc := 9) (As := [.int (1 : Int32)]) (rest := []) X hM hl.1 k_RX11_73 (ctX11_error l e30) rfl hb34 rfl rfl ⟨(Nat.le_of_ble_eq_true rfl), (Nat.le_of_ble_eq_true rfl)⟩ (Nat.le_of_ble_eq_true rfl) ⟨(Nat.le_of_ble_eq_true rfl), (Nat.le_of_ble_eq_true rfl)⟩ dX11_line_9 (fun H locs hM => ?_)
    obtain ⟨rfl, rfl⟩ := so2 h
    exact bz_iret (pc := 12) X hM hr hlk dX11_line_12 (Nat.le_of_ble_eq_true rfl) (Nat.le_of_ble_eq_true rfl)
theorem rX11_line {M : Mm} {a0 : Nat} {a1 : Int32} {r9 : Int32 × Mm} (h : fX11_line M a0 a1 = some r9) : ∃ fs, M[a0]? = some (.inr (11, fs)) := by
  unfold fX11_line at h
  obtain ⟨_, e1, _⟩ := ob h
  exact gC_spec e1
theorem ctX11_line (l : Launch) {P : PT} {M : Mm} {a0 : Nat} {a1 : Int32} {r9 : Int32} {M9 : Mm} (h : fX11_line M a0 a1 = some (r9, M9)) : Ct l yX11_line cX11_line 2 (some .int) 2 0 P [.ref (pB P + a0), .int a1] M (some (.int r9)) M9 :=
  Ct.mk (by decide +kernel) (Nat.le_of_ble_eq_true rfl) (fun p e s m args below meth c hX => wX11_line hX M a0 a1 h)
set_option maxHeartbeats 4000000 in
set_option maxRecDepth 100000 in
theorem wX5_scoreAt {p : Program} {l : Launch} {e : Env} {s : State} {m : MethodId} {args : Array Value} {below : List Frame} {meth : Method} {c : Code} {P : PT}  {r9 : Int32} (hX : Cy p s m args c meth cX5_scoreAt 2 RX5 "scoreAt" (some .int) P)  (M : Mm) (a0 : Nat) (a1 : Int32) (h : fX5_scoreAt M a0 a1 = some r9) : Wq p l e s m args below meth c 1 0 (some (.int r9)) M 2 P 0 0 [(0, .ref (pB P + a0)), (1, .int a1)] [] M := by
  unfold fX5_scoreAt at h
  obtain ⟨_, _, h⟩ := ob h
  have hX0 := hX
  obtain ⟨X, hr, hlk, hnm⟩ := hX0
  have hx := X.1.1
  have hb := X.1.2.1
  intro H locs ls hM hl
  refine lv_aload_n (pc := 0) hx hb dX5_scoreAt_0 rfl (lv_at hl 0 rfl) ?_
  obtain ⟨v1, e2, h⟩ := ob h
  refine bz_getI (pc := 1) X hM fl_RX5_28 e2 dX5_scoreAt_1 ?_
  refine lv_aload_n (pc := 4) hx hb dX5_scoreAt_4 rfl (lv_at hl 0 rfl) ?_
  obtain ⟨q3, e4, h⟩ := ob h
  refine bz_getQ (pc := 5) X hM fl_RX5_14 e4 dX5_scoreAt_5 ?_
  refine lv_iload_n (pc := 8) hx hb dX5_scoreAt_8 rfl (lv_at hl 1 rfl) ?_
  obtain ⟨v6, e5, h⟩ := ob h
  obtain ⟨fs7, hb8⟩ := (rX3_at e5)
  refine bz_callV1 (pc := 9) (As := [.int a1]) (rest := [.int v1]) X hM hl.1 k_RX5_54 (ctX3_at l e5) rfl hb8 rfl rfl ⟨(Nat.le_of_ble_eq_true rfl), (Nat.le_of_ble_eq_true rfl)⟩ (Nat.le_of_ble_eq_true rfl) ⟨(Nat.le_of_ble_eq_true rfl), (Nat.le_of_ble_eq_true rfl)⟩ dX5_scoreAt_9 (fun H locs hM => ?_)
  refine lv_imul (pc := 12) hx hb dX5_scoreAt_12 ?_
  refine lv_aload_n (pc := 13) hx hb dX5_scoreAt_13 rfl (lv_at hl 0 rfl) ?_
  obtain ⟨v9, e10, h⟩ := ob h
  refine bz_getI (pc := 14) X hM fl_RX5_48 e10 dX5_scoreAt_14 ?_
  refine lv_isub (pc := 17) hx hb dX5_scoreAt_17 ?_
  obtain rfl := so1 h
  exact bz_iret (pc := 18) X hM hr hlk dX5_scoreAt_18 (Nat.le_of_ble_eq_true rfl) (Nat.le_of_ble_eq_true rfl)
theorem rX5_scoreAt {M : Mm} {a0 : Nat} {a1 : Int32} {r9 : Int32} (h : fX5_scoreAt M a0 a1 = some r9) : ∃ fs, M[a0]? = some (.inr (5, fs)) := by
  unfold fX5_scoreAt at h
  obtain ⟨_, e1, _⟩ := ob h
  exact gC_spec e1
theorem ctX5_scoreAt (l : Launch) {P : PT} {M : Mm} {a0 : Nat} {a1 : Int32} {r9 : Int32} (h : fX5_scoreAt M a0 a1 = some r9) : Ct l yX5_scoreAt cX5_scoreAt 2 (some .int) 1 0 P [.ref (pB P + a0), .int a1] M (some (.int r9)) M :=
  Ct.mk (by decide +kernel) (Nat.le_of_ble_eq_true rfl) (fun p e s m args below meth c hX => wX5_scoreAt hX M a0 a1 h)
set_option maxHeartbeats 4000000 in
set_option maxRecDepth 100000 in
theorem wBX5_keepAll_2 {p : Program} {l : Launch} {e : Env} {s : State} {m : MethodId} {args : Array Value} {below : List Frame} {meth : Method} {c : Code} {P : PT} {N : Nat} {K2 : Mm → Nat → Int32 → Option (Mm)}  {M9 : Mm} (hX : Cy p s m args c meth cX5_keepAll 2 RX5 "keepAll" none P)  (hK2 : ∀ (M : Mm) (x0 : Nat) (x1 : Int32), K2 M x0 x1 = some M9 → Wq p l e s m args below meth c 2 0 none M9 2 P 0 2 [(0, .ref (pB P + x0)), (1, .int x1)] [] M) (M : Mm) (x0 : Nat) (x1 : Int32)  (h : BX5_keepAll_2 N K2 M x0 x1 = some M9) : Wq p l e s m args below meth c 2 0 none M9 2 P 0 2 [(0, .ref (pB P + x0)), (1, .int x1)] [] M := by
  unfold BX5_keepAll_2 at h
  have hX0 := hX
  obtain ⟨X, hr, hlk, hnm⟩ := hX0
  have hx := X.1.1
  have hb := X.1.2.1
  intro H locs ls hM hl
  refine lv_iload_n (pc := 2) hx hb dX5_keepAll_2 rfl (lv_at hl 1 rfl) ?_
  refine lv_aload_n (pc := 3) hx hb dX5_keepAll_3 rfl (lv_at hl 0 rfl) ?_
  obtain ⟨v1, e2, h⟩ := ob h
  refine bz_getI (pc := 4) X hM fl_RX5_28 e2 dX5_keepAll_4 ?_
  refine lv_icmp_gt (pc := 7) (tgt := 29) hx hb dX5_keepAll_7 (by decide) (fun hc => ?_) (fun hc => ?_)
  · have h := if_t hc h
    obtain rfl := so1 h
    exact bz_vret (pc := 29) X hM hr hlk dX5_keepAll_29 (Nat.le_of_ble_eq_true rfl) (Nat.le_of_ble_eq_true rfl)
  · have h := if_f hc h
    refine lv_aload_n (pc := 10) hx hb dX5_keepAll_10 rfl (lv_at hl 0 rfl) ?_
    obtain ⟨q3, e4, h⟩ := ob h
    refine bz_getQ (pc := 11) X hM fl_RX5_20 e4 dX5_keepAll_11 ?_
    refine lv_aload_n (pc := 14) hx hb dX5_keepAll_14 rfl (lv_at hl 0 rfl) ?_
    refine lv_iload_n (pc := 15) hx hb dX5_keepAll_15 rfl (lv_at hl 1 rfl) ?_
    obtain ⟨v6, e5, h⟩ := ob h
    obtain ⟨fs7, hb8⟩ := (rX5_scoreAt e5)
    refine bz_callV1 (pc := 16) (As := [.int x1]) (rest := [.ref (pB P + q3)]) X hM hl.1 k_RX5_76 (ctX5_scoreAt l e5) rfl hb8 rfl rfl ⟨(Nat.le_of_ble_eq_true rfl), (Nat.le_of_ble_eq_true rfl)⟩ (Nat.le_of_ble_eq_true rfl) ⟨(Nat.le_of_ble_eq_true rfl), (Nat.le_of_ble_eq_true rfl)⟩ dX5_keepAll_16 (fun H locs hM => ?_)
    obtain ⟨v10, M11, e9, h⟩ := ob2 h
    obtain ⟨fs12, hb13⟩ := (rX3_add e9)
    refine bz_callV1 (pc := 19) (As := [.int v6]) (rest := []) X hM hl.1 k_RX5_44 (ctX3_add l e9) rfl hb13 rfl rfl ⟨(Nat.le_of_ble_eq_true rfl), (Nat.le_of_ble_eq_true rfl)⟩ (Nat.le_of_ble_eq_true rfl) ⟨(Nat.le_of_ble_eq_true rfl), (Nat.le_of_ble_eq_true rfl)⟩ dX5_keepAll_19 (fun H locs hM => ?_)
    refine lv_pop (pc := 22) hx hb dX5_keepAll_22 rfl ?_
    refine lv_iinc (pc := 23) (v := (x1 + (1 : Int32))) (lv' := [(1, .int (x1 + (1 : Int32))), (0, .ref (pB P + x0))]) hx hb dX5_keepAll_23 hl (k := 1) rfl rfl (by decide) rfl (fun ls hl => ?_)
    refine lv_goto (pc := 26) (tgt := 2) hx hb dX5_keepAll_26 (by decide) ?_
    exact hK2 _ _ _ h H locs ls hM (lv_sub hl [1, 0] rfl)
set_option maxHeartbeats 4000000 in
set_option maxRecDepth 100000 in
theorem wLX5_keepAll_2 {p : Program} {l : Launch} {e : Env} {s : State} {m : MethodId} {args : Array Value} {below : List Frame} {meth : Method} {c : Code} {P : PT} {N : Nat}  {M9 : Mm} (hX : Cy p s m args c meth cX5_keepAll 2 RX5 "keepAll" none P)   : ∀ (n : Nat) (M : Mm) (x0 : Nat) (x1 : Int32) , LX5_keepAll_2 N n M x0 x1 = some M9 → Wq p l e s m args below meth c 2 0 none M9 2 P 0 2 [(0, .ref (pB P + x0)), (1, .int x1)] [] M := by
  intro n
  induction n with
  | zero => intro M x0 x1 h; cases h
  | succ n ih => intro M x0 x1 h; exact wBX5_keepAll_2 hX ih M x0 x1 h
set_option maxHeartbeats 4000000 in
set_option maxRecDepth 100000 in
theorem wX5_keepAll {p : Program} {l : Launch} {e : Env} {s : State} {m : MethodId} {args : Array Value} {below : List Frame} {meth : Method} {c : Code} {P : PT} {N : Nat}  {M9 : Mm} (hX : Cy p s m args c meth cX5_keepAll 2 RX5 "keepAll" none P)  (M : Mm) (a0 : Nat) (h : fX5_keepAll N M a0 = some M9) : Wq p l e s m args below meth c 2 0 none M9 2 P 0 0 [(0, .ref (pB P + a0))] [] M := by
  unfold fX5_keepAll at h
  obtain ⟨_, _, h⟩ := ob h
  have hX0 := hX
  obtain ⟨X, hr, hlk, hnm⟩ := hX0
  have hx := X.1.1
  have hb := X.1.2.1
  intro H locs ls hM hl
  refine lv_iconst (pc := 0) (v := (0 : Int32)) hx hb dX5_keepAll_0 (by decide) ?_
  refine lv_istore_n (pc := 1) (lv' := [(1, .int (0 : Int32)), (0, .ref (pB P + a0))]) hx hb dX5_keepAll_1 rfl hl (by decide) rfl (fun ls hl => ?_)
  exact wLX5_keepAll_2 hX _ _ _ _ h H locs ls hM (lv_sub hl [1, 0] rfl)
theorem rX5_keepAll {N : Nat} {M : Mm} {a0 : Nat} {r9 : Mm} (h : fX5_keepAll N M a0 = some r9) : ∃ fs, M[a0]? = some (.inr (5, fs)) := by
  unfold fX5_keepAll at h
  obtain ⟨_, e1, _⟩ := ob h
  exact gC_spec e1
theorem ctX5_keepAll (l : Launch) {P : PT} {N : Nat} {M : Mm} {a0 : Nat} {M9 : Mm} (h : fX5_keepAll N M a0 = some M9) : Ct l yX5_keepAll cX5_keepAll 2 none 2 0 P [.ref (pB P + a0)] M none M9 :=
  Ct.mk (by decide +kernel) (Nat.le_of_ble_eq_true rfl) (fun p e s m args below meth c hX => wX5_keepAll hX M a0 h)
set_option maxHeartbeats 4000000 in
set_option maxRecDepth 100000 in
theorem wBX5_keepGreater_24 {p : Program} {l : Launch} {e : Env} {s : State} {m : MethodId} {args : Array Value} {below : List Frame} {meth : Method} {c : Code} {P : PT} {N : Nat} {K24 : Mm → Nat → Int32 → Int32 → Option (Int32 × Mm)}  {r9 : Int32} {M9 : Mm} (hX : Cy p s m args c meth cX5_keepGreater 3 RX5 "keepGreater" (some .boolean) P)  (hK24 : ∀ (M : Mm) (x0 : Nat) (x1 : Int32) (x2 : Int32), K24 M x0 x1 x2 = some (r9, M9) → Wq p l e s m args below meth c 2 0 (some (.int r9)) M9 3 P 0 24 [(0, .ref (pB P + x0)), (1, .int x1), (2, .int x2)] [] M) (M : Mm) (x0 : Nat) (x1 : Int32) (x2 : Int32)  (h : BX5_keepGreater_24 N K24 M x0 x1 x2 = some (r9, M9)) : Wq p l e s m args below meth c 2 0 (some (.int r9)) M9 3 P 0 24 [(0, .ref (pB P + x0)), (1, .int x1), (2, .int x2)] [] M := by
  unfold BX5_keepGreater_24 at h
  have hX0 := hX
  obtain ⟨X, hr, hlk, hnm⟩ := hX0
  have hx := X.1.1
  have hb := X.1.2.1
  intro H locs ls hM hl
  refine lv_iload_n (pc := 24) hx hb dX5_keepGreater_24 rfl (lv_at hl 2 rfl) ?_
  refine lv_aload_n (pc := 25) hx hb dX5_keepGreater_25 rfl (lv_at hl 0 rfl) ?_
  obtain ⟨v1, e2, h⟩ := ob h
  refine bz_getI (pc := 26) X hM fl_RX5_28 e2 dX5_keepGreater_26 ?_
  refine lv_icmp_gt (pc := 29) (tgt := 63) hx hb dX5_keepGreater_29 (by decide) (fun hc => ?_) (fun hc => ?_)
  · have h := if_t hc h
    refine lv_iload_n (pc := 63) hx hb dX5_keepGreater_63 rfl (lv_at hl 1 rfl) ?_
    obtain ⟨v3, e4, h⟩ := ob h
    obtain ⟨rfl, rfl⟩ := so2 h
    exact bz_zretz (pc := 64) X hM hr hlk e4 dX5_keepGreater_64 (Nat.le_of_ble_eq_true rfl) (Nat.le_of_ble_eq_true rfl)
  · have h := if_f hc h
    refine lv_aload_n (pc := 32) hx hb dX5_keepGreater_32 rfl (lv_at hl 0 rfl) ?_
    obtain ⟨q5, e6, h⟩ := ob h
    refine bz_getQ (pc := 33) X hM fl_RX5_20 e6 dX5_keepGreater_33 ?_
    refine lv_iload_n (pc := 36) hx hb dX5_keepGreater_36 rfl (lv_at hl 2 rfl) ?_
    refine lv_aload_n (pc := 37) hx hb dX5_keepGreater_37 rfl (lv_at hl 0 rfl) ?_
    obtain ⟨q7, e8, h⟩ := ob h
    refine bz_getQ (pc := 38) X hM fl_RX5_20 e8 dX5_keepGreater_38 ?_
    refine lv_iload_n (pc := 41) hx hb dX5_keepGreater_41 rfl (lv_at hl 2 rfl) ?_
    obtain ⟨v10, e9, h⟩ := ob h
    obtain ⟨fs11, hb12⟩ := (rX3_at e9)
    refine bz_callV1 (pc := 42) (As := [.int x2]) (rest := [.int x2, .ref (pB P + q5)]) X hM hl.1 k_RX5_54 (ctX3_at l e9) rfl hb12 rfl rfl ⟨(Nat.le_of_ble_eq_true rfl), (Nat.le_of_ble_eq_true rfl)⟩ (Nat.le_of_ble_eq_true rfl) ⟨(Nat.le_of_ble_eq_true rfl), (Nat.le_of_ble_eq_true rfl)⟩ dX5_keepGreater_42 (fun H locs hM => ?_)
    refine lv_aload_n (pc := 45) hx hb dX5_keepGreater_45 rfl (lv_at hl 0 rfl) ?_
    refine lv_iload_n (pc := 46) hx hb dX5_keepGreater_46 rfl (lv_at hl 2 rfl) ?_
    obtain ⟨v14, e13, h⟩ := ob h
    obtain ⟨fs15, hb16⟩ := (rX5_scoreAt e13)
    refine bz_callV1 (pc := 47) (As := [.int x2]) (rest := [.int v10, .int x2, .ref (pB P + q5)]) X hM hl.1 k_RX5_76 (ctX5_scoreAt l e13) rfl hb16 rfl rfl ⟨(Nat.le_of_ble_eq_true rfl), (Nat.le_of_ble_eq_true rfl)⟩ (Nat.le_of_ble_eq_true rfl) ⟨(Nat.le_of_ble_eq_true rfl), (Nat.le_of_ble_eq_true rfl)⟩ dX5_keepGreater_47 (fun H locs hM => ?_)
    obtain ⟨v18, e17, h⟩ := ob h
    refine bz_callS1 (pc := 50) (As := [.int v10, .int v14]) (rest := [.int x2, .ref (pB P + q5)]) X hM hl.1 k_RX5_79 (ctJ9_max_7cf53 l e17) rfl rfl ⟨(Nat.le_of_ble_eq_true rfl), (Nat.le_of_ble_eq_true rfl)⟩ (Nat.le_of_ble_eq_true rfl) ⟨(Nat.le_of_ble_eq_true rfl), (Nat.le_of_ble_eq_true rfl)⟩ dX5_keepGreater_50 (fun H locs hM => ?_)
    obtain ⟨v20, M21, e19, h⟩ := ob2 h
    obtain ⟨fs22, hb23⟩ := (rX3_exchange e19)
    refine bz_callV1 (pc := 53) (As := [.int x2, .int v18]) (rest := []) X hM hl.1 k_RX5_84 (ctX3_exchange l e19) rfl hb23 rfl rfl ⟨(Nat.le_of_ble_eq_true rfl), (Nat.le_of_ble_eq_true rfl)⟩ (Nat.le_of_ble_eq_true rfl) ⟨(Nat.le_of_ble_eq_true rfl), (Nat.le_of_ble_eq_true rfl)⟩ dX5_keepGreater_53 (fun H locs hM => ?_)
    refine lv_pop (pc := 56) hx hb dX5_keepGreater_56 rfl ?_
    refine lv_iinc (pc := 57) (v := (x2 + (1 : Int32))) (lv' := [(2, .int (x2 + (1 : Int32))), (0, .ref (pB P + x0)), (1, .int x1)]) hx hb dX5_keepGreater_57 hl (k := 2) rfl rfl (by decide) rfl (fun ls hl => ?_)
    refine lv_goto (pc := 60) (tgt := 24) hx hb dX5_keepGreater_60 (by decide) ?_
    exact hK24 _ _ _ _ h H locs ls hM (lv_sub hl [1, 2, 0] rfl)
set_option maxHeartbeats 4000000 in
set_option maxRecDepth 100000 in
theorem wLX5_keepGreater_24 {p : Program} {l : Launch} {e : Env} {s : State} {m : MethodId} {args : Array Value} {below : List Frame} {meth : Method} {c : Code} {P : PT} {N : Nat}  {r9 : Int32} {M9 : Mm} (hX : Cy p s m args c meth cX5_keepGreater 3 RX5 "keepGreater" (some .boolean) P)   : ∀ (n : Nat) (M : Mm) (x0 : Nat) (x1 : Int32) (x2 : Int32) , LX5_keepGreater_24 N n M x0 x1 x2 = some (r9, M9) → Wq p l e s m args below meth c 2 0 (some (.int r9)) M9 3 P 0 24 [(0, .ref (pB P + x0)), (1, .int x1), (2, .int x2)] [] M := by
  intro n
  induction n with
  | zero => intro M x0 x1 x2 h; cases h
  | succ n ih => intro M x0 x1 x2 h; exact wBX5_keepGreater_24 hX ih M x0 x1 x2 h
set_option maxHeartbeats 4000000 in
set_option maxRecDepth 100000 in
theorem wX5_keepGreater {p : Program} {l : Launch} {e : Env} {s : State} {m : MethodId} {args : Array Value} {below : List Frame} {meth : Method} {c : Code} {P : PT} {N : Nat}  {r9 : Int32} {M9 : Mm} (hX : Cy p s m args c meth cX5_keepGreater 3 RX5 "keepGreater" (some .boolean) P)  (M : Mm) (a0 : Nat) (h : fX5_keepGreater N M a0 = some (r9, M9)) : Wq p l e s m args below meth c 2 0 (some (.int r9)) M9 3 P 0 0 [(0, .ref (pB P + a0))] [] M := by
  unfold fX5_keepGreater at h
  obtain ⟨_, _, h⟩ := ob h
  have hX0 := hX
  obtain ⟨X, hr, hlk, hnm⟩ := hX0
  have hx := X.1.1
  have hb := X.1.2.1
  intro H locs ls hM hl
  refine lv_aload_n (pc := 0) hx hb dX5_keepGreater_0 rfl (lv_at hl 0 rfl) ?_
  refine lv_iconst (pc := 1) (v := (0 : Int32)) hx hb dX5_keepGreater_1 (by decide) ?_
  obtain ⟨v2, e1, h⟩ := ob h
  obtain ⟨fs3, hb4⟩ := (rX5_scoreAt e1)
  refine bz_callV1 (pc := 2) (As := [.int (0 : Int32)]) (rest := []) X hM hl.1 k_RX5_76 (ctX5_scoreAt l e1) rfl hb4 rfl rfl ⟨(Nat.le_of_ble_eq_true rfl), (Nat.le_of_ble_eq_true rfl)⟩ (Nat.le_of_ble_eq_true rfl) ⟨(Nat.le_of_ble_eq_true rfl), (Nat.le_of_ble_eq_true rfl)⟩ dX5_keepGreater_2 (fun H locs hM => ?_)
  refine lv_aload_n (pc := 5) hx hb dX5_keepGreater_5 rfl (lv_at hl 0 rfl) ?_
  obtain ⟨q5, e6, h⟩ := ob h
  refine bz_getQ (pc := 6) X hM fl_RX5_20 e6 dX5_keepGreater_6 ?_
  refine lv_iconst (pc := 9) (v := (0 : Int32)) hx hb dX5_keepGreater_9 (by decide) ?_
  obtain ⟨v8, e7, h⟩ := ob h
  obtain ⟨fs9, hb10⟩ := (rX3_at e7)
  refine bz_callV1 (pc := 10) (As := [.int (0 : Int32)]) (rest := [.int v2]) X hM hl.1 k_RX5_54 (ctX3_at l e7) rfl hb10 rfl rfl ⟨(Nat.le_of_ble_eq_true rfl), (Nat.le_of_ble_eq_true rfl)⟩ (Nat.le_of_ble_eq_true rfl) ⟨(Nat.le_of_ble_eq_true rfl), (Nat.le_of_ble_eq_true rfl)⟩ dX5_keepGreater_10 (fun H locs hM => ?_)
  refine lv_icmp_le (pc := 13) (tgt := 20) hx hb dX5_keepGreater_13 (by decide) (fun hc => ?_) (fun hc => ?_)
  · have h := if_t hc h
    refine lv_iconst (pc := 20) (v := (0 : Int32)) hx hb dX5_keepGreater_20 (by decide) ?_
    refine lv_istore_n (pc := 21) (lv' := [(1, .int (0 : Int32)), (0, .ref (pB P + a0))]) hx hb dX5_keepGreater_21 rfl hl (by decide) rfl (fun ls hl => ?_)
    refine lv_iconst (pc := 22) (v := (0 : Int32)) hx hb dX5_keepGreater_22 (by decide) ?_
    refine lv_istore_n (pc := 23) (lv' := [(2, .int (0 : Int32)), (1, .int (0 : Int32)), (0, .ref (pB P + a0))]) hx hb dX5_keepGreater_23 rfl hl (by decide) rfl (fun ls hl => ?_)
    exact wLX5_keepGreater_24 hX _ _ _ _ _ h H locs ls hM (lv_sub hl [2, 1, 0] rfl)
  · have h := if_f hc h
    refine lv_iconst (pc := 16) (v := (1 : Int32)) hx hb dX5_keepGreater_16 (by decide) ?_
    refine lv_goto (pc := 17) (tgt := 21) hx hb dX5_keepGreater_17 (by decide) ?_
    refine lv_istore_n (pc := 21) (lv' := [(1, .int (1 : Int32)), (0, .ref (pB P + a0))]) hx hb dX5_keepGreater_21 rfl hl (by decide) rfl (fun ls hl => ?_)
    refine lv_iconst (pc := 22) (v := (0 : Int32)) hx hb dX5_keepGreater_22 (by decide) ?_
    refine lv_istore_n (pc := 23) (lv' := [(2, .int (0 : Int32)), (1, .int (1 : Int32)), (0, .ref (pB P + a0))]) hx hb dX5_keepGreater_23 rfl hl (by decide) rfl (fun ls hl => ?_)
    exact wLX5_keepGreater_24 hX _ _ _ _ _ h H locs ls hM (lv_sub hl [2, 1, 0] rfl)
theorem rX5_keepGreater {N : Nat} {M : Mm} {a0 : Nat} {r9 : Int32 × Mm} (h : fX5_keepGreater N M a0 = some r9) : ∃ fs, M[a0]? = some (.inr (5, fs)) := by
  unfold fX5_keepGreater at h
  obtain ⟨_, e1, _⟩ := ob h
  exact gC_spec e1
theorem ctX5_keepGreater (l : Launch) {P : PT} {N : Nat} {M : Mm} {a0 : Nat} {r9 : Int32} {M9 : Mm} (h : fX5_keepGreater N M a0 = some (r9, M9)) : Ct l yX5_keepGreater cX5_keepGreater 3 (some .boolean) 2 0 P [.ref (pB P + a0)] M (some (.int r9)) M9 :=
  Ct.mk (by decide +kernel) (Nat.le_of_ble_eq_true rfl) (fun p e s m args below meth c hX => wX5_keepGreater hX M a0 h)
