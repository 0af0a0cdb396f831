set_option maxHeartbeats 4000000 in
set_option maxRecDepth 100000 in
theorem wX11_size {p : Program} {l : Launch} {e : Env} {s : State} {m : MethodId} {args : Array Value} {below : List Frame} {meth : Method} {c : Code} {P : PT}  {r9 : Int32} (hX : Cy p s m args c meth cX11_size 1 RX11 "size" (some .int) P)  (M : Mm) (a0 : Int32) (h : fX11_size M a0 = some r9) : Wq p l e s m args below meth c 0 0 (some (.int r9)) M 1 P 0 0 [(0, .int a0)] [] M := by
  unfold fX11_size at h
  have hX0 := hX
  obtain ⟨X, hr, hlk, hnm⟩ := hX0
  have hx := X.1.1
  have hb := X.1.2.1
  intro H locs ls hM hl
  refine lv_iload_n (pc := 0) hx hb dX11_size_0 rfl (lv_at hl 0 rfl) ?_
  refine lv_if_ge (pc := 1) (tgt := 9) hx hb dX11_size_1 (by decide) (fun hc => ?_) (fun hc => ?_)
  · have h := if_t hc h
    refine lv_iload_n (pc := 9) hx hb dX11_size_9 rfl (lv_at hl 0 rfl) ?_
    obtain rfl := so1 h
    exact bz_iret (pc := 10) X hM hr hlk dX11_size_10 (Nat.le_of_ble_eq_true rfl) (Nat.le_of_ble_eq_true rfl)
  · have h := if_f hc h
    refine lv_iload_n (pc := 4) hx hb dX11_size_4 rfl (lv_at hl 0 rfl) ?_
    refine lv_ineg (pc := 5) hx hb dX11_size_5 ?_
    refine lv_goto (pc := 6) (tgt := 10) hx hb dX11_size_6 (by decide) ?_
    obtain rfl := so1 h
    exact bz_iret (pc := 10) X hM hr hlk dX11_size_10 (Nat.le_of_ble_eq_true rfl) (Nat.le_of_ble_eq_true rfl)
theorem ctX11_size (l : Launch) {P : PT} {M : Mm} {a0 : Int32} {r9 : Int32} (h : fX11_size M a0 = some r9) : Ct l yX11_size cX11_size 1 (some .int) 0 0 P [.int a0] M (some (.int r9)) M :=
  Ct.mk (by decide +kernel) (Nat.le_of_ble_eq_true rfl) (fun p e s m args below meth c hX => wX11_size hX M a0 h)
set_option maxHeartbeats 4000000 in
set_option maxRecDepth 100000 in
theorem wBX11_twice_62 {p : Program} {l : Launch} {e : Env} {s : State} {m : MethodId} {args : Array Value} {below : List Frame} {meth : Method} {c : Code} {P : PT} {N : Nat} {K26 : Mm → Nat → Int32 → Int32 → Int32 → Int32 → Int32 → Option (Int32)} {K62 : Mm → Nat → Int32 → Int32 → Int32 → Int32 → Int32 → Int32 → Int32 → Option (Int32)}  {r9 : Int32} (hX : Cy p s m args c meth cX11_twice 8 RX11 "twice" (some .int) P)  (hK26 : ∀ (M : Mm) (x0 : Nat) (x1 : Int32) (x2 : Int32) (x3 : Int32) (x4 : Int32) (x5 : Int32), K26 M x0 x1 x2 x3 x4 x5 = some r9 → Wq p l e s m args below meth c 2 0 (some (.int r9)) M 8 P 0 26 [(0, .ref (pB P + x0)), (1, .int x1), (2, .int x2), (3, .int x3), (4, .int x4), (5, .int x5)] [] M) (hK62 : ∀ (M : Mm) (x0 : Nat) (x1 : Int32) (x2 : Int32) (x3 : Int32) (x4 : Int32) (x5 : Int32) (x6 : Int32) (x7 : Int32), K62 M x0 x1 x2 x3 x4 x5 x6 x7 = some r9 → Wq p l e s m args below meth c 2 0 (some (.int r9)) M 8 P 0 62 [(0, .ref (pB P + x0)), (1, .int x1), (2, .int x2), (3, .int x3), (4, .int x4), (5, .int x5), (6, .int x6), (7, .int x7)] [] M) (M : Mm) (x0 : Nat) (x1 : Int32) (x2 : Int32) (x3 : Int32) (x4 : Int32) (x5 : Int32) (x6 : Int32) (x7 : Int32)  (h : BX11_twice_62 N K26 K62 M x0 x1 x2 x3 x4 x5 x6 x7 = some r9) : Wq p l e s m args below meth c 2 0 (some (.int r9)) M 8 P 0 62 [(0, .ref (pB P + x0)), (1, .int x1), (2, .int x2), (3, .int x3), (4, .int x4), (5, .int x5), (6, .int x6), (7, .int x7)] [] M := by
  unfold BX11_twice_62 at h
  have hX0 := hX
  obtain ⟨X, hr, hlk, hnm⟩ := hX0
  have hx := X.1.1
  have hb := X.1.2.1
  intro H locs ls hM hl
  refine lv_iload (pc := 62) hx hb dX11_twice_62 (lv_at hl 7 rfl) ?_
  refine lv_aload_n (pc := 64) hx hb dX11_twice_64 rfl (lv_at hl 0 rfl) ?_
  obtain ⟨q1, e2, h⟩ := ob h
  refine bz_getQ (pc := 65) X hM fl_RX11_9 e2 dX11_twice_65 ?_
  refine lv_iconst (pc := 68) (v := (1 : Int32)) hx hb dX11_twice_68 (by decide) ?_
  obtain ⟨v3, e4, h⟩ := ob h
  refine bz_iald (pc := 69) X hM e4 dX11_twice_69 ?_
  refine lv_icmp_ge (pc := 70) (tgt := 132) hx hb dX11_twice_70 (by decide) (fun hc => ?_) (fun hc => ?_)
  · have h := if_t hc h
    refine lv_iload (pc := 132) hx hb dX11_twice_132 (lv_at hl 4 rfl) ?_
    refine lv_iload (pc := 134) hx hb dX11_twice_134 (lv_at hl 6 rfl) ?_
    refine lv_iconst (pc := 136) (v := (1 : Int32)) hx hb dX11_twice_136 (by decide) ?_
    refine lv_icmp_le (pc := 137) (tgt := 144) hx hb dX11_twice_137 (by decide) (fun hc => ?_) (fun hc => ?_)
    · have h := if_t hc h
      refine lv_iconst (pc := 144) (v := (0 : Int32)) hx hb dX11_twice_144 (by decide) ?_
      refine lv_iadd (pc := 145) hx hb dX11_twice_145 ?_
      refine lv_istore (pc := 146) (lv' := [(4, .int (x4 + (0 : Int32))), (0, .ref (pB P + x0)), (1, .int x1), (2, .int x2), (3, .int x3), (5, .int x5), (6, .int x6), (7, .int x7)]) hx hb dX11_twice_146 hl (by decide) rfl (fun ls hl => ?_)
      refine lv_iinc (pc := 148) (v := (x5 + (1 : Int32))) (lv' := [(5, .int (x5 + (1 : Int32))), (4, .int (x4 + (0 : Int32))), (0, .ref (pB P + x0)), (1, .int x1), (2, .int x2), (3, .int x3), (6, .int x6), (7, .int x7)]) hx hb dX11_twice_148 hl (k := 5) rfl rfl (by decide) rfl (fun ls hl => ?_)
      refine lv_goto (pc := 151) (tgt := 26) hx hb dX11_twice_151 (by decide) ?_
      exact hK26 _ _ _ _ _ _ _ h H locs ls hM (lv_sub hl [2, 3, 4, 5, 1, 0] rfl)
    · have h := if_f hc h
      refine lv_iconst (pc := 140) (v := (1 : Int32)) hx hb dX11_twice_140 (by decide) ?_
      refine lv_goto (pc := 141) (tgt := 145) hx hb dX11_twice_141 (by decide) ?_
      refine lv_iadd (pc := 145) hx hb dX11_twice_145 ?_
      refine lv_istore (pc := 146) (lv' := [(4, .int (x4 + (1 : Int32))), (0, .ref (pB P + x0)), (1, .int x1), (2, .int x2), (3, .int x3), (5, .int x5), (6, .int x6), (7, .int x7)]) hx hb dX11_twice_146 hl (by decide) rfl (fun ls hl => ?_)
      refine lv_iinc (pc := 148) (v := (x5 + (1 : Int32))) (lv' := [(5, .int (x5 + (1 : Int32))), (4, .int (x4 + (1 : Int32))), (0, .ref (pB P + x0)), (1, .int x1), (2, .int x2), (3, .int x3), (6, .int x6), (7, .int x7)]) hx hb dX11_twice_148 hl (k := 5) rfl rfl (by decide) rfl (fun ls hl => ?_)
      refine lv_goto (pc := 151) (tgt := 26) hx hb dX11_twice_151 (by decide) ?_
      exact hK26 _ _ _ _ _ _ _ h H locs ls hM (lv_sub hl [2, 3, 4, 5, 1, 0] rfl)
  · have h := if_f hc h
    refine lv_iload (pc := 73) hx hb dX11_twice_73 (lv_at hl 6 rfl) ?_
    refine lv_aload_n (pc := 75) hx hb dX11_twice_75 rfl (lv_at hl 0 rfl) ?_
    refine lv_iload (pc := 76) hx hb dX11_twice_76 (lv_at hl 7 rfl) ?_
    refine lv_iload_n (pc := 78) hx hb dX11_twice_78 rfl (lv_at hl 2 rfl) ?_
    refine lv_aload_n (pc := 79) hx hb dX11_twice_79 rfl (lv_at hl 0 rfl) ?_
    refine lv_iload_n (pc := 80) hx hb dX11_twice_80 rfl (lv_at hl 1 rfl) ?_
    refine lv_iconst (pc := 81) (v := (2 : Int32)) hx hb dX11_twice_81 (by decide) ?_
    obtain ⟨v6, e5, h⟩ := ob h
    obtain ⟨fs7, hb8⟩ := (rX11_of e5)
    refine bz_callV1 (pc := 82) (As := [.int x1, .int (2 : Int32)]) (rest := [.int x2, .int x7, .ref (pB P + x0), .int x6]) X hM hl.1 k_RX11_222 (ctX11_of l e5) rfl hb8 rfl rfl ⟨(Nat.le_of_ble_eq_true rfl), (Nat.le_of_ble_eq_true rfl)⟩ (Nat.le_of_ble_eq_true rfl) ⟨(Nat.le_of_ble_eq_true rfl), (Nat.le_of_ble_eq_true rfl)⟩ dX11_twice_82 (fun H locs hM => ?_)
    obtain ⟨v10, e9, h⟩ := ob h
    obtain ⟨fs11, hb12⟩ := (rX11_isCounted e9)
    refine bz_callV1 (pc := 85) (As := [.int x7, .int x2, .int v6]) (rest := [.int x6]) X hM hl.1 k_RX11_123 (ctX11_isCounted l e9) rfl hb12 rfl rfl ⟨(Nat.le_of_ble_eq_true rfl), (Nat.le_of_ble_eq_true rfl)⟩ (Nat.le_of_ble_eq_true rfl) ⟨(Nat.le_of_ble_eq_true rfl), (Nat.le_of_ble_eq_true rfl)⟩ dX11_twice_85 (fun H locs hM => ?_)
    refine lv_if_eq (pc := 88) (tgt := 122) hx hb dX11_twice_88 (by decide) (fun hc => ?_) (fun hc => ?_)
    · have h := if_t hc h
      refine lv_iconst (pc := 122) (v := (0 : Int32)) hx hb dX11_twice_122 (by decide) ?_
      refine lv_iadd (pc := 123) hx hb dX11_twice_123 ?_
      refine lv_istore (pc := 124) (lv' := [(6, .int (x6 + (0 : Int32))), (0, .ref (pB P + x0)), (1, .int x1), (2, .int x2), (3, .int x3), (4, .int x4), (5, .int x5), (7, .int x7)]) hx hb dX11_twice_124 hl (by decide) rfl (fun ls hl => ?_)
      refine lv_iinc (pc := 126) (v := (x7 + (1 : Int32))) (lv' := [(7, .int (x7 + (1 : Int32))), (6, .int (x6 + (0 : Int32))), (0, .ref (pB P + x0)), (1, .int x1), (2, .int x2), (3, .int x3), (4, .int x4), (5, .int x5)]) hx hb dX11_twice_126 hl (k := 7) rfl rfl (by decide) rfl (fun ls hl => ?_)
      refine lv_goto (pc := 129) (tgt := 62) hx hb dX11_twice_129 (by decide) ?_
      exact hK62 _ _ _ _ _ _ _ _ _ h H locs ls hM (lv_sub hl [2, 3, 4, 5, 6, 7, 1, 0] rfl)
    · have h := if_f hc h
      refine lv_aload_n (pc := 91) hx hb dX11_twice_91 rfl (lv_at hl 0 rfl) ?_
      obtain ⟨q13, e14, h⟩ := ob h
      refine bz_getQ (pc := 92) X hM fl_RX11_19 e14 dX11_twice_92 ?_
      refine lv_iload (pc := 95) hx hb dX11_twice_95 (lv_at hl 7 rfl) ?_
      obtain ⟨v15, e16, h⟩ := ob h
      refine bz_iald (pc := 97) X hM e16 dX11_twice_97 ?_
      refine lv_aload_n (pc := 98) hx hb dX11_twice_98 rfl (lv_at hl 0 rfl) ?_
      obtain ⟨q17, e18, h⟩ := ob h
      refine bz_getQ (pc := 99) X hM fl_RX11_19 e18 dX11_twice_99 ?_
      refine lv_iload (pc := 102) hx hb dX11_twice_102 (lv_at hl 5 rfl) ?_
      obtain ⟨v19, e20, h⟩ := ob h
      refine bz_iald (pc := 104) X hM e20 dX11_twice_104 ?_
      refine lv_isub (pc := 105) hx hb dX11_twice_105 ?_
      obtain ⟨v22, e21, h⟩ := ob h
      refine bz_callS1 (pc := 106) (As := [.int (v15 - v19)]) (rest := [.int x6]) X hM hl.1 k_RX11_231 (ctX11_size l e21) rfl rfl ⟨(Nat.le_of_ble_eq_true rfl), (Nat.le_of_ble_eq_true rfl)⟩ (Nat.le_of_ble_eq_true rfl) ⟨(Nat.le_of_ble_eq_true rfl), (Nat.le_of_ble_eq_true rfl)⟩ dX11_twice_106 (fun H locs hM => ?_)
      refine lv_aload_n (pc := 109) hx hb dX11_twice_109 rfl (lv_at hl 0 rfl) ?_
      refine lv_iload_n (pc := 110) hx hb dX11_twice_110 rfl (lv_at hl 1 rfl) ?_
      refine lv_iconst (pc := 111) (v := (3 : Int32)) hx hb dX11_twice_111 (by decide) ?_
      obtain ⟨v24, e23, h⟩ := ob h
      obtain ⟨fs25, hb26⟩ := (rX11_of e23)
      refine bz_callV1 (pc := 112) (As := [.int x1, .int (3 : Int32)]) (rest := [.int v22, .int x6]) X hM hl.1 k_RX11_222 (ctX11_of l e23) rfl hb26 rfl rfl ⟨(Nat.le_of_ble_eq_true rfl), (Nat.le_of_ble_eq_true rfl)⟩ (Nat.le_of_ble_eq_true rfl) ⟨(Nat.le_of_ble_eq_true rfl), (Nat.le_of_ble_eq_true rfl)⟩ dX11_twice_112 (fun H locs hM => ?_)
      refine lv_icmp_gt (pc := 115) (tgt := 122) hx hb dX11_twice_115 (by decide) (fun hc => ?_) (fun hc => ?_)
      · have h := if_t hc h
        refine lv_iconst (pc := 122) (v := (0 : Int32)) hx hb dX11_twice_122 (by decide) ?_
        refine lv_iadd (pc := 123) hx hb dX11_twice_123 ?_
        refine lv_istore (pc := 124) (lv' := [(6, .int (x6 + (0 : Int32))), (0, .ref (pB P + x0)), (1, .int x1), (2, .int x2), (3, .int x3), (4, .int x4), (5, .int x5), (7, .int x7)]) hx hb dX11_twice_124 hl (by decide) rfl (fun ls hl => ?_)
        refine lv_iinc (pc := 126) (v := (x7 + (1 : Int32))) (lv' := [(7, .int (x7 + (1 : Int32))), (6, .int (x6 + (0 : Int32))), (0, .ref (pB P + x0)), (1, .int x1), (2, .int x2), (3, .int x3), (4, .int x4), (5, .int x5)]) hx hb dX11_twice_126 hl (k := 7) rfl rfl (by decide) rfl (fun ls hl => ?_)
        refine lv_goto (pc := 129) (tgt := 62) hx hb dX11_twice_129 (by decide) ?_
        exact hK62 _ _ _ _ _ _ _ _ _ h H locs ls hM (lv_sub hl [2, 3, 4, 5, 6, 7, 1, 0] rfl)
      · have h := if_f hc h
        refine lv_iconst (pc := 118) (v := (1 : Int32)) hx hb dX11_twice_118 (by decide) ?_
        refine lv_goto (pc := 119) (tgt := 123) hx hb dX11_twice_119 (by decide) ?_
        refine lv_iadd (pc := 123) hx hb dX11_twice_123 ?_
        refine lv_istore (pc := 124) (lv' := [(6, .int (x6 + (1 : Int32))), (0, .ref (pB P + x0)), (1, .int x1), (2, .int x2), (3, .int x3), (4, .int x4), (5, .int x5), (7, .int x7)]) hx hb dX11_twice_124 hl (by decide) rfl (fun ls hl => ?_)
        refine lv_iinc (pc := 126) (v := (x7 + (1 : Int32))) (lv' := [(7, .int (x7 + (1 : Int32))), (6, .int (x6 + (1 : Int32))), (0, .ref (pB P + x0)), (1, .int x1), (2, .int x2), (3, .int x3), (4, .int x4), (5, .int x5)]) hx hb dX11_twice_126 hl (k := 7) rfl rfl (by decide) rfl (fun ls hl => ?_)
        refine lv_goto (pc := 129) (tgt := 62) hx hb dX11_twice_129 (by decide) ?_
        exact hK62 _ _ _ _ _ _ _ _ _ h H locs ls hM (lv_sub hl [2, 3, 4, 5, 6, 7, 1, 0] rfl)
set_option maxHeartbeats 4000000 in
set_option maxRecDepth 100000 in
theorem wLX11_twice_62 {p : Program} {l : Launch} {e : Env} {s : State} {m : MethodId} {args : Array Value} {below : List Frame} {meth : Method} {c : Code} {P : PT} {N : Nat} {K26 : Mm → Nat → Int32 → Int32 → Int32 → Int32 → Int32 → Option (Int32)}  {r9 : Int32} (hX : Cy p s m args c meth cX11_twice 8 RX11 "twice" (some .int) P)  (hK26 : ∀ (M : Mm) (x0 : Nat) (x1 : Int32) (x2 : Int32) (x3 : Int32) (x4 : Int32) (x5 : Int32), K26 M x0 x1 x2 x3 x4 x5 = some r9 → Wq p l e s m args below meth c 2 0 (some (.int r9)) M 8 P 0 26 [(0, .ref (pB P + x0)), (1, .int x1), (2, .int x2), (3, .int x3), (4, .int x4), (5, .int x5)] [] M) : ∀ (n : Nat) (M : Mm) (x0 : Nat) (x1 : Int32) (x2 : Int32) (x3 : Int32) (x4 : Int32) (x5 : Int32) (x6 : Int32) (x7 : Int32) , LX11_twice_62 N K26 n M x0 x1 x2 x3 x4 x5 x6 x7 = some r9 → Wq p l e s m args below meth c 2 0 (some (.int r9)) M 8 P 0 62 [(0, .ref (pB P + x0)), (1, .int x1), (2, .int x2), (3, .int x3), (4, .int x4), (5, .int x5), (6, .int x6), (7, .int x7)] [] M := by
  intro n
  induction n with
  | zero => intro M x0 x1 x2 x3 x4 x5 x6 x7 h; cases h
  | succ n ih => intro M x0 x1 x2 x3 x4 x5 x6 x7 h; exact wBX11_twice_62 hX hK26 ih M x0 x1 x2 x3 x4 x5 x6 x7 h
set_option maxHeartbeats 4000000 in
set_option maxRecDepth 100000 in
theorem wBX11_twice_26 {p : Program} {l : Launch} {e : Env} {s : State} {m : MethodId} {args : Array Value} {below : List Frame} {meth : Method} {c : Code} {P : PT} {N : Nat} {K26 : Mm → Nat → Int32 → Int32 → Int32 → Int32 → Int32 → Option (Int32)}  {r9 : Int32} (hX : Cy p s m args c meth cX11_twice 8 RX11 "twice" (some .int) P)  (hK26 : ∀ (M : Mm) (x0 : Nat) (x1 : Int32) (x2 : Int32) (x3 : Int32) (x4 : Int32) (x5 : Int32), K26 M x0 x1 x2 x3 x4 x5 = some r9 → Wq p l e s m args below meth c 2 0 (some (.int r9)) M 8 P 0 26 [(0, .ref (pB P + x0)), (1, .int x1), (2, .int x2), (3, .int x3), (4, .int x4), (5, .int x5)] [] M) (M : Mm) (x0 : Nat) (x1 : Int32) (x2 : Int32) (x3 : Int32) (x4 : Int32) (x5 : Int32)  (h : BX11_twice_26 N K26 M x0 x1 x2 x3 x4 x5 = some r9) : Wq p l e s m args below meth c 2 0 (some (.int r9)) M 8 P 0 26 [(0, .ref (pB P + x0)), (1, .int x1), (2, .int x2), (3, .int x3), (4, .int x4), (5, .int x5)] [] M := by
  unfold BX11_twice_26 at h
  have hX0 := hX
  obtain ⟨X, hr, hlk, hnm⟩ := hX0
  have hx := X.1.1
  have hb := X.1.2.1
  intro H locs ls hM hl
  refine lv_iload (pc := 26) hx hb dX11_twice_26 (lv_at hl 5 rfl) ?_
  refine lv_aload_n (pc := 28) hx hb dX11_twice_28 rfl (lv_at hl 0 rfl) ?_
  obtain ⟨q1, e2, h⟩ := ob h
  refine bz_getQ (pc := 29) X hM fl_RX11_9 e2 dX11_twice_29 ?_
  refine lv_iconst (pc := 32) (v := (1 : Int32)) hx hb dX11_twice_32 (by decide) ?_
  obtain ⟨v3, e4, h⟩ := ob h
  refine bz_iald (pc := 33) X hM e4 dX11_twice_33 ?_
  refine lv_icmp_ge (pc := 34) (tgt := 154) hx hb dX11_twice_34 (by decide) (fun hc => ?_) (fun hc => ?_)
  · have h := if_t hc h
    refine lv_iload (pc := 154) hx hb dX11_twice_154 (lv_at hl 4 rfl) ?_
    obtain rfl := so1 h
    exact bz_iret (pc := 156) X hM hr hlk dX11_twice_156 (Nat.le_of_ble_eq_true rfl) (Nat.le_of_ble_eq_true rfl)
  · have h := if_f hc h
    refine lv_aload_n (pc := 37) hx hb dX11_twice_37 rfl (lv_at hl 0 rfl) ?_
    refine lv_iload (pc := 38) hx hb dX11_twice_38 (lv_at hl 5 rfl) ?_
    refine lv_iload_n (pc := 40) hx hb dX11_twice_40 rfl (lv_at hl 3 rfl) ?_
    refine lv_aload_n (pc := 41) hx hb dX11_twice_41 rfl (lv_at hl 0 rfl) ?_
    refine lv_iload_n (pc := 42) hx hb dX11_twice_42 rfl (lv_at hl 1 rfl) ?_
    refine lv_iconst (pc := 43) (v := (2 : Int32)) hx hb dX11_twice_43 (by decide) ?_
    obtain ⟨v6, e5, h⟩ := ob h
    obtain ⟨fs7, hb8⟩ := (rX11_of e5)
    refine bz_callV1 (pc := 44) (As := [.int x1, .int (2 : Int32)]) (rest := [.int x3, .int x5, .ref (pB P + x0)]) X hM hl.1 k_RX11_222 (ctX11_of l e5) rfl hb8 rfl rfl ⟨(Nat.le_of_ble_eq_true rfl), (Nat.le_of_ble_eq_true rfl)⟩ (Nat.le_of_ble_eq_true rfl) ⟨(Nat.le_of_ble_eq_true rfl), (Nat.le_of_ble_eq_true rfl)⟩ dX11_twice_44 (fun H locs hM => ?_)
    obtain ⟨v10, e9, h⟩ := ob h
    obtain ⟨fs11, hb12⟩ := (rX11_isCounted e9)
    refine bz_callV1 (pc := 47) (As := [.int x5, .int x3, .int v6]) (rest := []) X hM hl.1 k_RX11_123 (ctX11_isCounted l e9) rfl hb12 rfl rfl ⟨(Nat.le_of_ble_eq_true rfl), (Nat.le_of_ble_eq_true rfl)⟩ (Nat.le_of_ble_eq_true rfl) ⟨(Nat.le_of_ble_eq_true rfl), (Nat.le_of_ble_eq_true rfl)⟩ dX11_twice_47 (fun H locs hM => ?_)
    refine lv_if_ne (pc := 50) (tgt := 56) hx hb dX11_twice_50 (by decide) (fun hc => ?_) (fun hc => ?_)
    · have h := if_f hc h
      refine lv_iconst (pc := 56) (v := (0 : Int32)) hx hb dX11_twice_56 (by decide) ?_
      refine lv_istore (pc := 57) (lv' := [(6, .int (0 : Int32)), (0, .ref (pB P + x0)), (1, .int x1), (2, .int x2), (3, .int x3), (4, .int x4), (5, .int x5)]) hx hb dX11_twice_57 hl (by decide) rfl (fun ls hl => ?_)
      refine lv_iconst (pc := 59) (v := (0 : Int32)) hx hb dX11_twice_59 (by decide) ?_
      refine lv_istore (pc := 60) (lv' := [(7, .int (0 : Int32)), (6, .int (0 : Int32)), (0, .ref (pB P + x0)), (1, .int x1), (2, .int x2), (3, .int x3), (4, .int x4), (5, .int x5)]) hx hb dX11_twice_60 hl (by decide) rfl (fun ls hl => ?_)
      exact wLX11_twice_62 hX hK26 _ _ _ _ _ _ _ _ _ _ h H locs ls hM (lv_sub hl [2, 3, 4, 5, 6, 7, 1, 0] rfl)
    · have h := if_t hc h
      refine lv_goto (pc := 53) (tgt := 148) hx hb dX11_twice_53 (by decide) ?_
      refine lv_iinc (pc := 148) (v := (x5 + (1 : Int32))) (lv' := [(5, .int (x5 + (1 : Int32))), (0, .ref (pB P + x0)), (1, .int x1), (2, .int x2), (3, .int x3), (4, .int x4)]) hx hb dX11_twice_148 hl (k := 5) rfl rfl (by decide) rfl (fun ls hl => ?_)
      refine lv_goto (pc := 151) (tgt := 26) hx hb dX11_twice_151 (by decide) ?_
      exact hK26 _ _ _ _ _ _ _ h H locs ls hM (lv_sub hl [1, 2, 3, 4, 5, 0] rfl)
set_option maxHeartbeats 4000000 in
set_option maxRecDepth 100000 in
theorem wLX11_twice_26 {p : Program} {l : Launch} {e : Env} {s : State} {m : MethodId} {args : Array Value} {below : List Frame} {meth : Method} {c : Code} {P : PT} {N : Nat}  {r9 : Int32} (hX : Cy p s m args c meth cX11_twice 8 RX11 "twice" (some .int) P)   : ∀ (n : Nat) (M : Mm) (x0 : Nat) (x1 : Int32) (x2 : Int32) (x3 : Int32) (x4 : Int32) (x5 : Int32) , LX11_twice_26 N n M x0 x1 x2 x3 x4 x5 = some r9 → Wq p l e s m args below meth c 2 0 (some (.int r9)) M 8 P 0 26 [(0, .ref (pB P + x0)), (1, .int x1), (2, .int x2), (3, .int x3), (4, .int x4), (5, .int x5)] [] M := by
  intro n
  induction n with
  | zero => intro M x0 x1 x2 x3 x4 x5 h; cases h
  | succ n ih => intro M x0 x1 x2 x3 x4 x5 h; exact wBX11_twice_26 hX ih M x0 x1 x2 x3 x4 x5 h
set_option maxHeartbeats 4000000 in
set_option maxRecDepth 100000 in
theorem wX11_twice {p : Program} {l : Launch} {e : Env} {s : State} {m : MethodId} {args : Array Value} {below : List Frame} {meth : Method} {c : Code} {P : PT} {N : Nat}  {r9 : Int32} (hX : Cy p s m args c meth cX11_twice 8 RX11 "twice" (some .int) P)  (M : Mm) (a0 : Nat) (a1 : Int32) (h : fX11_twice N M a0 a1 = some r9) : Wq p l e s m args below meth c 2 0 (some (.int r9)) M 8 P 0 0 [(0, .ref (pB P + a0)), (1, .int a1)] [] M := by
  unfold fX11_twice at h
  obtain ⟨_, _, h⟩ := ob h
  have hX0 := hX
  obtain ⟨X, hr, hlk, hnm⟩ := hX0
  have hx := X.1.1
  have hb := X.1.2.1
  intro H locs ls hM hl
  refine lv_aload_n (pc := 0) hx hb dX11_twice_0 rfl (lv_at hl 0 rfl) ?_
  refine lv_iload_n (pc := 1) hx hb dX11_twice_1 rfl (lv_at hl 1 rfl) ?_
  refine lv_iconst (pc := 2) (v := (1 : Int32)) hx hb dX11_twice_2 (by decide) ?_
  obtain ⟨v2, e1, h⟩ := ob h
  obtain ⟨fs3, hb4⟩ := (rX11_of e1)
  refine bz_callV1 (pc := 3) (As := [.int a1, .int (1 : Int32)]) (rest := []) X hM hl.1 k_RX11_222 (ctX11_of l e1) rfl hb4 rfl rfl ⟨(Nat.le_of_ble_eq_true rfl), (Nat.le_of_ble_eq_true rfl)⟩ (Nat.le_of_ble_eq_true rfl) ⟨(Nat.le_of_ble_eq_true rfl), (Nat.le_of_ble_eq_true rfl)⟩ dX11_twice_3 (fun H locs hM => ?_)
  refine lv_bipush (pc := 6) (v := (10 : Int32)) hx hb dX11_twice_6 (by decide) ?_
  refine lv_idiv (pc := 8) hx hb dX11_twice_8 (by decide) ?_
  refine lv_istore_n (pc := 9) (lv' := [(2, .int (v2 / (10 : Int32))), (0, .ref (pB P + a0)), (1, .int a1)]) hx hb dX11_twice_9 rfl hl (by decide) rfl (fun ls hl => ?_)
  refine lv_aload_n (pc := 10) hx hb dX11_twice_10 rfl (lv_at hl 1 rfl) ?_
  refine lv_iload_n (pc := 11) hx hb dX11_twice_11 rfl (lv_at hl 2 rfl) ?_
  refine lv_iconst (pc := 12) (v := (1 : Int32)) hx hb dX11_twice_12 (by decide) ?_
  obtain ⟨v6, e5, h⟩ := ob h
  obtain ⟨fs7, hb8⟩ := (rX11_of e5)
  refine bz_callV1 (pc := 13) (As := [.int a1, .int (1 : Int32)]) (rest := []) X hM hl.1 k_RX11_222 (ctX11_of l e5) rfl hb8 rfl rfl ⟨(Nat.le_of_ble_eq_true rfl), (Nat.le_of_ble_eq_true rfl)⟩ (Nat.le_of_ble_eq_true rfl) ⟨(Nat.le_of_ble_eq_true rfl), (Nat.le_of_ble_eq_true rfl)⟩ dX11_twice_13 (fun H locs hM => ?_)
  refine lv_bipush (pc := 16) (v := (10 : Int32)) hx hb dX11_twice_16 (by decide) ?_
  refine bz_irem (pc := 18) hx hb dX11_twice_18 (by decide) ?_
  refine lv_istore_n (pc := 19) (lv' := [(3, .int (rmI v6 ((10 : Int32)))), (2, .int (v2 / (10 : Int32))), (0, .ref (pB P + a0)), (1, .int a1)]) hx hb dX11_twice_19 rfl hl (by decide) rfl (fun ls hl => ?_)
  refine lv_iconst (pc := 20) (v := (0 : Int32)) hx hb dX11_twice_20 (by decide) ?_
  refine lv_istore (pc := 21) (lv' := [(4, .int (0 : Int32)), (3, .int (rmI v6 ((10 : Int32)))), (2, .int (v2 / (10 : Int32))), (0, .ref (pB P + a0)), (1, .int a1)]) hx hb dX11_twice_21 hl (by decide) rfl (fun ls hl => ?_)
  refine lv_iconst (pc := 23) (v := (0 : Int32)) hx hb dX11_twice_23 (by decide) ?_
  refine lv_istore (pc := 24) (lv' := [(5, .int (0 : Int32)), (4, .int (0 : Int32)), (3, .int (rmI v6 ((10 : Int32)))), (2, .int (v2 / (10 : Int32))), (0, .ref (pB P + a0)), (1, .int a1)]) hx hb dX11_twice_24 hl (by decide) rfl (fun ls hl => ?_)
  exact wLX11_twice_26 hX _ _ _ _ _ _ _ _ h H locs ls hM (lv_sub hl [4, 5, 3, 2, 1, 0] rfl)
theorem rX11_twice {N : Nat} {M : Mm} {a0 : Nat} {a1 : Int32} {r9 : Int32} (h : fX11_twice N M a0 a1 = some r9) : ∃ fs, M[a0]? = some (.inr (11, fs)) := by
  unfold fX11_twice at h
  obtain ⟨_, e1, _⟩ := ob h
  exact gC_spec e1
theorem ctX11_twice (l : Launch) {P : PT} {N : Nat} {M : Mm} {a0 : Nat} {a1 : Int32} {r9 : Int32} (h : fX11_twice N M a0 a1 = some r9) : Ct l yX11_twice cX11_twice 8 (some .int) 2 0 P [.ref (pB P + a0), .int a1] M (some (.int r9)) M :=
  Ct.mk (by decide +kernel) (Nat.le_of_ble_eq_true rfl) (fun p e s m args below meth c hX => wX11_twice hX M a0 a1 h)
set_option maxHeartbeats 4000000 in
set_option maxRecDepth 100000 in
theorem wX11_gives {p : Program} {l : Launch} {e : Env} {s : State} {m : MethodId} {args : Array Value} {below : List Frame} {meth : Method} {c : Code} {P : PT} {N : Nat}  {r9 : Int32} {M9 : Mm} (hX : Cy p s m args c meth cX11_gives 6 RX11 "gives" (some .int) P)  (M : Mm) (a0 : Nat) (a1 : Int32) (h : fX11_gives N M a0 a1 = some (r9, M9)) : Wq p l e s m args below meth c 6 0 (some (.int r9)) M9 6 P 0 0 [(0, .ref (pB P + a0)), (1, .int a1)] [] M := by
  unfold fX11_gives at h
  obtain ⟨_, _, h⟩ := ob h
  have hX0 := hX
  obtain ⟨X, hr, hlk, hnm⟩ := hX0
  have hx := X.1.1
  have hb := X.1.2.1
  intro H locs ls hM hl
  refine lv_aload_n (pc := 0) hx hb dX11_gives_0 rfl (lv_at hl 0 rfl) ?_
  refine lv_iload_n (pc := 1) hx hb dX11_gives_1 rfl (lv_at hl 1 rfl) ?_
  obtain ⟨v2, e1, h⟩ := ob h
  obtain ⟨fs3, hb4⟩ := (rX11_isCounting e1)
  refine bz_callV1 (pc := 2) (As := [.int a1]) (rest := []) X hM hl.1 k_RX11_219 (ctX11_isCounting l e1) rfl hb4 rfl rfl ⟨(Nat.le_of_ble_eq_true rfl), (Nat.le_of_ble_eq_true rfl)⟩ (Nat.le_of_ble_eq_true rfl) ⟨(Nat.le_of_ble_eq_true rfl), (Nat.le_of_ble_eq_true rfl)⟩ dX11_gives_2 (fun H locs hM => ?_)
  refine lv_if_ne (pc := 5) (tgt := 14) hx hb dX11_gives_5 (by decide) (fun hc => ?_) (fun hc => ?_)
  · have h := if_f hc h
    refine lv_aload_n (pc := 14) hx hb dX11_gives_14 rfl (lv_at hl 0 rfl) ?_
    obtain ⟨M6, e5, h⟩ := ob h
    obtain ⟨fs7, hb8⟩ := (rX11_readAll e5)
    refine bz_callV0 (pc := 15) (As := []) (rest := []) X hM hl.1 k_RX11_120 (ctX11_readAll l e5) rfl hb8 rfl rfl ⟨(Nat.le_of_ble_eq_true rfl), (Nat.le_of_ble_eq_true rfl)⟩ (Nat.le_of_ble_eq_true rfl) ⟨(Nat.le_of_ble_eq_true rfl), (Nat.le_of_ble_eq_true rfl)⟩ dX11_gives_15 (fun H locs hM => ?_)
    refine lv_aload_n (pc := 18) hx hb dX11_gives_18 rfl (lv_at hl 0 rfl) ?_
    refine lv_iload_n (pc := 19) hx hb dX11_gives_19 rfl (lv_at hl 1 rfl) ?_
    refine lv_iconst (pc := 20) (v := (1 : Int32)) hx hb dX11_gives_20 (by decide) ?_
    obtain ⟨v10, e9, h⟩ := ob h
    obtain ⟨fs11, hb12⟩ := (rX11_of e9)
    refine bz_callV1 (pc := 21) (As := [.int a1, .int (1 : Int32)]) (rest := []) X hM hl.1 k_RX11_222 (ctX11_of l e9) rfl hb12 rfl rfl ⟨(Nat.le_of_ble_eq_true rfl), (Nat.le_of_ble_eq_true rfl)⟩ (Nat.le_of_ble_eq_true rfl) ⟨(Nat.le_of_ble_eq_true rfl), (Nat.le_of_ble_eq_true rfl)⟩ dX11_gives_21 (fun H locs hM => ?_)
    refine lv_bipush (pc := 24) (v := (10 : Int32)) hx hb dX11_gives_24 (by decide) ?_
    refine lv_idiv (pc := 26) hx hb dX11_gives_26 (by decide) ?_
    refine lv_istore_n (pc := 27) (lv' := [(2, .int (v10 / (10 : Int32))), (0, .ref (pB P + a0)), (1, .int a1)]) hx hb dX11_gives_27 rfl hl (by decide) rfl (fun ls hl => ?_)
    refine lv_aload_n (pc := 28) hx hb dX11_gives_28 rfl (lv_at hl 1 rfl) ?_
    refine lv_iload_n (pc := 29) hx hb dX11_gives_29 rfl (lv_at hl 2 rfl) ?_
    refine lv_iconst (pc := 30) (v := (1 : Int32)) hx hb dX11_gives_30 (by decide) ?_
    obtain ⟨v14, e13, h⟩ := ob h
    obtain ⟨fs15, hb16⟩ := (rX11_of e13)
    refine bz_callV1 (pc := 31) (As := [.int a1, .int (1 : Int32)]) (rest := []) X hM hl.1 k_RX11_222 (ctX11_of l e13) rfl hb16 rfl rfl ⟨(Nat.le_of_ble_eq_true rfl), (Nat.le_of_ble_eq_true rfl)⟩ (Nat.le_of_ble_eq_true rfl) ⟨(Nat.le_of_ble_eq_true rfl), (Nat.le_of_ble_eq_true rfl)⟩ dX11_gives_31 (fun H locs hM => ?_)
    refine lv_bipush (pc := 34) (v := (10 : Int32)) hx hb dX11_gives_34 (by decide) ?_
    refine bz_irem (pc := 36) hx hb dX11_gives_36 (by decide) ?_
    refine lv_istore_n (pc := 37) (lv' := [(3, .int (rmI v14 ((10 : Int32)))), (2, .int (v10 / (10 : Int32))), (0, .ref (pB P + a0)), (1, .int a1)]) hx hb dX11_gives_37 rfl hl (by decide) rfl (fun ls hl => ?_)
    refine lv_aload_n (pc := 38) hx hb dX11_gives_38 rfl (lv_at hl 2 rfl) ?_
    refine lv_iload_n (pc := 39) hx hb dX11_gives_39 rfl (lv_at hl 3 rfl) ?_
    refine lv_iconst (pc := 40) (v := (2 : Int32)) hx hb dX11_gives_40 (by decide) ?_
    obtain ⟨v18, e17, h⟩ := ob h
    obtain ⟨fs19, hb20⟩ := (rX11_of e17)
    refine bz_callV1 (pc := 41) (As := [.int a1, .int (2 : Int32)]) (rest := []) X hM hl.1 k_RX11_222 (ctX11_of l e17) rfl hb20 rfl rfl ⟨(Nat.le_of_ble_eq_true rfl), (Nat.le_of_ble_eq_true rfl)⟩ (Nat.le_of_ble_eq_true rfl) ⟨(Nat.le_of_ble_eq_true rfl), (Nat.le_of_ble_eq_true rfl)⟩ dX11_gives_41 (fun H locs hM => ?_)
    refine lv_istore (pc := 44) (lv' := [(4, .int v18), (3, .int (rmI v14 ((10 : Int32)))), (2, .int (v10 / (10 : Int32))), (0, .ref (pB P + a0)), (1, .int a1)]) hx hb dX11_gives_44 hl (by decide) rfl (fun ls hl => ?_)
    refine lv_aload_n (pc := 46) hx hb dX11_gives_46 rfl (lv_at hl 3 rfl) ?_
    refine lv_iload_n (pc := 47) hx hb dX11_gives_47 rfl (lv_at hl 4 rfl) ?_
    obtain ⟨v22, e21, h⟩ := ob h
    obtain ⟨fs23, hb24⟩ := (rX11_plain e21)
    refine bz_callV1 (pc := 48) (As := [.int a1]) (rest := []) X hM hl.1 k_RX11_234 (ctX11_plain l e21) rfl hb24 rfl rfl ⟨(Nat.le_of_ble_eq_true rfl), (Nat.le_of_ble_eq_true rfl)⟩ (Nat.le_of_ble_eq_true rfl) ⟨(Nat.le_of_ble_eq_true rfl), (Nat.le_of_ble_eq_true rfl)⟩ dX11_gives_48 (fun H locs hM => ?_)
    refine lv_aload_n (pc := 51) hx hb dX11_gives_51 rfl (lv_at hl 3 rfl) ?_
    refine lv_iload_n (pc := 52) hx hb dX11_gives_52 rfl (lv_at hl 4 rfl) ?_
    obtain ⟨v26, e25, h⟩ := ob h
    obtain ⟨fs27, hb28⟩ := (rX11_warm e25)
    refine bz_callV1 (pc := 53) (As := [.int a1]) (rest := [.int v22]) X hM hl.1 k_RX11_237 (ctX11_warm l e25) rfl hb28 rfl rfl ⟨(Nat.le_of_ble_eq_true rfl), (Nat.le_of_ble_eq_true rfl)⟩ (Nat.le_of_ble_eq_true rfl) ⟨(Nat.le_of_ble_eq_true rfl), (Nat.le_of_ble_eq_true rfl)⟩ dX11_gives_53 (fun H locs hM => ?_)
    refine lv_isub (pc := 56) hx hb dX11_gives_56 ?_
    refine lv_istore (pc := 57) (lv' := [(5, .int (v22 - v26)), (4, .int v18), (3, .int (rmI v14 ((10 : Int32)))), (2, .int (v10 / (10 : Int32))), (0, .ref (pB P + a0)), (1, .int a1)]) hx hb dX11_gives_57 hl (by decide) rfl (fun ls hl => ?_)
    refine lv_aload_n (pc := 59) hx hb dX11_gives_59 rfl (lv_at hl 4 rfl) ?_
    refine lv_iload_n (pc := 60) hx hb dX11_gives_60 rfl (lv_at hl 5 rfl) ?_
    refine lv_iconst (pc := 61) (v := (0 : Int32)) hx hb dX11_gives_61 (by decide) ?_
    obtain ⟨v30, e29, h⟩ := ob h
    obtain ⟨fs31, hb32⟩ := (rX11_of e29)
    refine bz_callV1 (pc := 62) (As := [.int a1, .int (0 : Int32)]) (rest := []) X hM hl.1 k_RX11_222 (ctX11_of l e29) rfl hb32 rfl rfl ⟨(Nat.le_of_ble_eq_true rfl), (Nat.le_of_ble_eq_true rfl)⟩ (Nat.le_of_ble_eq_true rfl) ⟨(Nat.le_of_ble_eq_true rfl), (Nat.le_of_ble_eq_true rfl)⟩ dX11_gives_62 (fun H locs hM => ?_)
    by_cases hs0 : v30 = (0 : Int32)
    · have h := if_t hs0 h
      refine lv_tableIn (pc := 65) (off := 43) (tgt := 108) hx hb dX11_gives_65 (by rw [hs0]; decide) (by rw [hs0]; decide) (by rw [hs0]; rfl) (by decide) ?_
      refine lv_aload_n (pc := 108) hx hb dX11_gives_108 rfl (lv_at hl 4 rfl) ?_
      refine lv_iload_n (pc := 109) hx hb dX11_gives_109 rfl (lv_at hl 5 rfl) ?_
      obtain ⟨v34, e33, h⟩ := ob h
      obtain ⟨fs35, hb36⟩ := (rX11_plain e33)
      refine bz_callV1 (pc := 110) (As := [.int a1]) (rest := []) X hM hl.1 k_RX11_234 (ctX11_plain l e33) rfl hb36 rfl rfl ⟨(Nat.le_of_ble_eq_true rfl), (Nat.le_of_ble_eq_true rfl)⟩ (Nat.le_of_ble_eq_true rfl) ⟨(Nat.le_of_ble_eq_true rfl), (Nat.le_of_ble_eq_true rfl)⟩ dX11_gives_110 (fun H locs hM => ?_)
      obtain ⟨rfl, rfl⟩ := so2 h
      exact bz_iret (pc := 113) X hM hr hlk dX11_gives_113 (Nat.le_of_ble_eq_true rfl) (Nat.le_of_ble_eq_true rfl)
    have h := if_f hs0 h
    by_cases hs1 : v30 = (1 : Int32)
    · have h := if_t hs1 h
      refine lv_tableIn (pc := 65) (off := 49) (tgt := 114) hx hb dX11_gives_65 (by rw [hs1]; decide) (by rw [hs1]; decide) (by rw [hs1]; rfl) (by decide) ?_
      refine lv_aload_n (pc := 114) hx hb dX11_gives_114 rfl (lv_at hl 4 rfl) ?_
      refine lv_iload_n (pc := 115) hx hb dX11_gives_115 rfl (lv_at hl 5 rfl) ?_
      obtain ⟨v38, e37, h⟩ := ob h
      obtain ⟨fs39, hb40⟩ := (rX11_warm e37)
      refine bz_callV1 (pc := 116) (As := [.int a1]) (rest := []) X hM hl.1 k_RX11_237 (ctX11_warm l e37) rfl hb40 rfl rfl ⟨(Nat.le_of_ble_eq_true rfl), (Nat.le_of_ble_eq_true rfl)⟩ (Nat.le_of_ble_eq_true rfl) ⟨(Nat.le_of_ble_eq_true rfl), (Nat.le_of_ble_eq_true rfl)⟩ dX11_gives_116 (fun H locs hM => ?_)
      obtain ⟨rfl, rfl⟩ := so2 h
      exact bz_iret (pc := 119) X hM hr hlk dX11_gives_119 (Nat.le_of_ble_eq_true rfl) (Nat.le_of_ble_eq_true rfl)
    have h := if_f hs1 h
    by_cases hs2 : v30 = (2 : Int32)
    · have h := if_t hs2 h
      refine lv_tableIn (pc := 65) (off := 55) (tgt := 120) hx hb dX11_gives_65 (by rw [hs2]; decide) (by rw [hs2]; decide) (by rw [hs2]; rfl) (by decide) ?_
      refine lv_iload (pc := 120) hx hb dX11_gives_120 (lv_at hl 0 rfl) ?_
      refine lv_if_le (pc := 122) (tgt := 130) hx hb dX11_gives_122 (by decide) (fun hc => ?_) (fun hc => ?_)
      · have h := if_t hc h
        refine lv_iconst (pc := 130) (v := (0 : Int32)) hx hb dX11_gives_130 (by decide) ?_
        obtain ⟨rfl, rfl⟩ := so2 h
        exact bz_iret (pc := 131) X hM hr hlk dX11_gives_131 (Nat.le_of_ble_eq_true rfl) (Nat.le_of_ble_eq_true rfl)
      · have h := if_f hc h
        refine lv_iload (pc := 125) hx hb dX11_gives_125 (lv_at hl 0 rfl) ?_
        refine lv_goto (pc := 127) (tgt := 131) hx hb dX11_gives_127 (by decide) ?_
        obtain ⟨rfl, rfl⟩ := so2 h
        exact bz_iret (pc := 131) X hM hr hlk dX11_gives_131 (Nat.le_of_ble_eq_true rfl) (Nat.le_of_ble_eq_true rfl)
    have h := if_f hs2 h
    by_cases hs3 : v30 = (3 : Int32)
    · have h := if_t hs3 h
      refine lv_tableIn (pc := 65) (off := 67) (tgt := 132) hx hb dX11_gives_65 (by rw [hs3]; decide) (by rw [hs3]; decide) (by rw [hs3]; rfl) (by decide) ?_
      refine lv_aload_n (pc := 132) hx hb dX11_gives_132 rfl (lv_at hl 4 rfl) ?_
      refine lv_iload_n (pc := 133) hx hb dX11_gives_133 rfl (lv_at hl 3 rfl) ?_
      refine lv_iload (pc := 134) hx hb dX11_gives_134 (lv_at hl 1 rfl) ?_
      obtain ⟨v42, e41, h⟩ := ob h
      obtain ⟨fs43, hb44⟩ := (rX11_counted e41)
      refine bz_callV1 (pc := 136) (As := [.int (v10 / (10 : Int32)), .int v18]) (rest := []) X hM hl.1 k_RX11_240 (ctX11_counted l e41) rfl hb44 rfl rfl ⟨(Nat.le_of_ble_eq_true rfl), (Nat.le_of_ble_eq_true rfl)⟩ (Nat.le_of_ble_eq_true rfl) ⟨(Nat.le_of_ble_eq_true rfl), (Nat.le_of_ble_eq_true rfl)⟩ dX11_gives_136 (fun H locs hM => ?_)
      refine lv_aload_n (pc := 139) hx hb dX11_gives_139 rfl (lv_at hl 4 rfl) ?_
      refine lv_iload_n (pc := 140) hx hb dX11_gives_140 rfl (lv_at hl 5 rfl) ?_
      obtain ⟨v46, e45, h⟩ := ob h
      obtain ⟨fs47, hb48⟩ := (rX11_plain e45)
      refine bz_callV1 (pc := 141) (As := [.int a1]) (rest := [.int v42]) X hM hl.1 k_RX11_234 (ctX11_plain l e45) rfl hb48 rfl rfl ⟨(Nat.le_of_ble_eq_true rfl), (Nat.le_of_ble_eq_true rfl)⟩ (Nat.le_of_ble_eq_true rfl) ⟨(Nat.le_of_ble_eq_true rfl), (Nat.le_of_ble_eq_true rfl)⟩ dX11_gives_141 (fun H locs hM => ?_)
      refine lv_isub (pc := 144) hx hb dX11_gives_144 ?_
      obtain ⟨rfl, rfl⟩ := so2 h
      exact bz_iret (pc := 145) X hM hr hlk dX11_gives_145 (Nat.le_of_ble_eq_true rfl) (Nat.le_of_ble_eq_true rfl)
    have h := if_f hs3 h
    by_cases hs4 : v30 = (4 : Int32)
    · have h := if_t hs4 h
      refine lv_tableIn (pc := 65) (off := 81) (tgt := 146) hx hb dX11_gives_65 (by rw [hs4]; decide) (by rw [hs4]; decide) (by rw [hs4]; rfl) (by decide) ?_
      refine lv_aload_n (pc := 146) hx hb dX11_gives_146 rfl (lv_at hl 4 rfl) ?_
      refine lv_iload_n (pc := 147) hx hb dX11_gives_147 rfl (lv_at hl 5 rfl) ?_
      obtain ⟨v50, e49, h⟩ := ob h
      obtain ⟨fs51, hb52⟩ := (rX11_lined e49)
      refine bz_callV1 (pc := 148) (As := [.int a1]) (rest := []) X hM hl.1 k_RX11_243 (ctX11_lined l e49) rfl hb52 rfl rfl ⟨(Nat.le_of_ble_eq_true rfl), (Nat.le_of_ble_eq_true rfl)⟩ (Nat.le_of_ble_eq_true rfl) ⟨(Nat.le_of_ble_eq_true rfl), (Nat.le_of_ble_eq_true rfl)⟩ dX11_gives_148 (fun H locs hM => ?_)
      obtain ⟨rfl, rfl⟩ := so2 h
      exact bz_iret (pc := 151) X hM hr hlk dX11_gives_151 (Nat.le_of_ble_eq_true rfl) (Nat.le_of_ble_eq_true rfl)
    have h := if_f hs4 h
    by_cases hs5 : v30 = (5 : Int32)
    · have h := if_t hs5 h
      refine lv_tableIn (pc := 65) (off := 87) (tgt := 152) hx hb dX11_gives_65 (by rw [hs5]; decide) (by rw [hs5]; decide) (by rw [hs5]; rfl) (by decide) ?_
      refine lv_aload_n (pc := 152) hx hb dX11_gives_152 rfl (lv_at hl 4 rfl) ?_
      refine lv_iload_n (pc := 153) hx hb dX11_gives_153 rfl (lv_at hl 5 rfl) ?_
      obtain ⟨v54, e53, h⟩ := ob h
      obtain ⟨fs55, hb56⟩ := (rX11_plain e53)
      refine bz_callV1 (pc := 154) (As := [.int a1]) (rest := []) X hM hl.1 k_RX11_234 (ctX11_plain l e53) rfl hb56 rfl rfl ⟨(Nat.le_of_ble_eq_true rfl), (Nat.le_of_ble_eq_true rfl)⟩ (Nat.le_of_ble_eq_true rfl) ⟨(Nat.le_of_ble_eq_true rfl), (Nat.le_of_ble_eq_true rfl)⟩ dX11_gives_154 (fun H locs hM => ?_)
      refine lv_aload_n (pc := 157) hx hb dX11_gives_157 rfl (lv_at hl 4 rfl) ?_
      refine lv_iload_n (pc := 158) hx hb dX11_gives_158 rfl (lv_at hl 5 rfl) ?_
      obtain ⟨v58, e57, h⟩ := ob h
      obtain ⟨fs59, hb60⟩ := (rX11_twice e57)
      refine bz_callV1 (pc := 159) (As := [.int a1]) (rest := [.int v54]) X hM hl.1 k_RX11_246 (ctX11_twice l e57) rfl hb60 rfl rfl ⟨(Nat.le_of_ble_eq_true rfl), (Nat.le_of_ble_eq_true rfl)⟩ (Nat.le_of_ble_eq_true rfl) ⟨(Nat.le_of_ble_eq_true rfl), (Nat.le_of_ble_eq_true rfl)⟩ dX11_gives_159 (fun H locs hM => ?_)
      refine lv_iadd (pc := 162) hx hb dX11_gives_162 ?_
      obtain ⟨rfl, rfl⟩ := so2 h
      exact bz_iret (pc := 163) X hM hr hlk dX11_gives_163 (Nat.le_of_ble_eq_true rfl) (Nat.le_of_ble_eq_true rfl)
    have h := if_f hs5 h
    by_cases hs6 : v30 = (6 : Int32)
    · have h := if_t hs6 h
      refine lv_tableIn (pc := 65) (off := 99) (tgt := 164) hx hb dX11_gives_65 (by rw [hs6]; decide) (by rw [hs6]; decide) (by rw [hs6]; rfl) (by decide) ?_
      refine lv_aload_n (pc := 164) hx hb dX11_gives_164 rfl (lv_at hl 4 rfl) ?_
      refine lv_iload_n (pc := 165) hx hb dX11_gives_165 rfl (lv_at hl 5 rfl) ?_
      refine lv_iload (pc := 166) hx hb dX11_gives_166 (lv_at hl 1 rfl) ?_
      refine lv_aload_n (pc := 168) hx hb dX11_gives_168 rfl (lv_at hl 4 rfl) ?_
      refine lv_iload_n (pc := 169) hx hb dX11_gives_169 rfl (lv_at hl 5 rfl) ?_
      refine lv_iconst (pc := 170) (v := (4 : Int32)) hx hb dX11_gives_170 (by decide) ?_
      obtain ⟨v62, e61, h⟩ := ob h
      obtain ⟨fs63, hb64⟩ := (rX11_of e61)
      refine bz_callV1 (pc := 171) (As := [.int a1, .int (4 : Int32)]) (rest := [.int v18, .int a1, .ref (pB P + a0)]) X hM hl.1 k_RX11_222 (ctX11_of l e61) rfl hb64 rfl rfl ⟨(Nat.le_of_ble_eq_true rfl), (Nat.le_of_ble_eq_true rfl)⟩ (Nat.le_of_ble_eq_true rfl) ⟨(Nat.le_of_ble_eq_true rfl), (Nat.le_of_ble_eq_true rfl)⟩ dX11_gives_171 (fun H locs hM => ?_)
      obtain ⟨v66, e65, h⟩ := ob h
      obtain ⟨fs67, hb68⟩ := (rX11_slid e65)
      refine bz_callV1 (pc := 174) (As := [.int a1, .int v18, .int v62]) (rest := []) X hM hl.1 k_RX11_228 (ctX11_slid l e65) rfl hb68 rfl rfl ⟨(Nat.le_of_ble_eq_true rfl), (Nat.le_of_ble_eq_true rfl)⟩ (Nat.le_of_ble_eq_true rfl) ⟨(Nat.le_of_ble_eq_true rfl), (Nat.le_of_ble_eq_true rfl)⟩ dX11_gives_174 (fun H locs hM => ?_)
      obtain ⟨rfl, rfl⟩ := so2 h
      exact bz_iret (pc := 177) X hM hr hlk dX11_gives_177 (Nat.le_of_ble_eq_true rfl) (Nat.le_of_ble_eq_true rfl)
    have h := if_f hs6 h
    have ho : (v30).toInt < 0 ∨ 6 < (v30).toInt := by
      have hs0 := lv_neT hs0 (a := 0) (by decide)
      have hs1 := lv_neT hs1 (a := 1) (by decide)
      have hs2 := lv_neT hs2 (a := 2) (by decide)
      have hs3 := lv_neT hs3 (a := 3) (by decide)
      have hs4 := lv_neT hs4 (a := 4) (by decide)
      have hs5 := lv_neT hs5 (a := 5) (by decide)
      have hs6 := lv_neT hs6 (a := 6) (by decide)
      omega
    refine lv_tableOut (pc := 65) (tgt := 178) hx hb dX11_gives_65 ho (by decide) ?_
    refine lv_aload_n (pc := 178) hx hb dX11_gives_178 rfl (lv_at hl 4 rfl) ?_
    refine lv_iload_n (pc := 179) hx hb dX11_gives_179 rfl (lv_at hl 5 rfl) ?_
    refine lv_iload (pc := 180) hx hb dX11_gives_180 (lv_at hl 1 rfl) ?_
    refine lv_aload_n (pc := 182) hx hb dX11_gives_182 rfl (lv_at hl 4 rfl) ?_
    refine lv_iload_n (pc := 183) hx hb dX11_gives_183 rfl (lv_at hl 3 rfl) ?_
    obtain ⟨v70, e69, h⟩ := ob h
    obtain ⟨fs71, hb72⟩ := (rX11_clockOf e69)
    refine bz_callV1 (pc := 184) (As := [.int (v10 / (10 : Int32))]) (rest := [.int v18, .int a1, .ref (pB P + a0)]) X hM hl.1 k_RX11_91 (ctX11_clockOf l e69) rfl hb72 rfl rfl ⟨(Nat.le_of_ble_eq_true rfl), (Nat.le_of_ble_eq_true rfl)⟩ (Nat.le_of_ble_eq_true rfl) ⟨(Nat.le_of_ble_eq_true rfl), (Nat.le_of_ble_eq_true rfl)⟩ dX11_gives_184 (fun H locs hM => ?_)
    refine lv_aload_n (pc := 187) hx hb dX11_gives_187 rfl (lv_at hl 4 rfl) ?_
    refine lv_iload_n (pc := 188) hx hb dX11_gives_188 rfl (lv_at hl 2 rfl) ?_
    obtain ⟨v74, e73, h⟩ := ob h
    obtain ⟨fs75, hb76⟩ := (rX11_clockOf e73)
    refine bz_callV1 (pc := 189) (As := [.int (rmI v14 ((10 : Int32)))]) (rest := [.int v70, .int v18, .int a1, .ref (pB P + a0)]) X hM hl.1 k_RX11_91 (ctX11_clockOf l e73) rfl hb76 rfl rfl ⟨(Nat.le_of_ble_eq_true rfl), (Nat.le_of_ble_eq_true rfl)⟩ (Nat.le_of_ble_eq_true rfl) ⟨(Nat.le_of_ble_eq_true rfl), (Nat.le_of_ble_eq_true rfl)⟩ dX11_gives_189 (fun H locs hM => ?_)
    refine lv_isub (pc := 192) hx hb dX11_gives_192 ?_
    obtain ⟨v78, e77, h⟩ := ob h
    obtain ⟨fs79, hb80⟩ := (rX11_slid e77)
    refine bz_callV1 (pc := 193) (As := [.int a1, .int v18, .int (v70 - v74)]) (rest := []) X hM hl.1 k_RX11_228 (ctX11_slid l e77) rfl hb80 rfl rfl ⟨(Nat.le_of_ble_eq_true rfl), (Nat.le_of_ble_eq_true rfl)⟩ (Nat.le_of_ble_eq_true rfl) ⟨(Nat.le_of_ble_eq_true rfl), (Nat.le_of_ble_eq_true rfl)⟩ dX11_gives_193 (fun H locs hM => ?_)
    obtain ⟨rfl, rfl⟩ := so2 h
    exact bz_iret (pc := 196) X hM hr hlk dX11_gives_196 (Nat.le_of_ble_eq_true rfl) (Nat.le_of_ble_eq_true rfl)
  · have h := if_t hc h
    refine lv_aload_n (pc := 8) hx hb dX11_gives_8 rfl (lv_at hl 0 rfl) ?_
    refine lv_iconst (pc := 9) (v := (1 : Int32)) hx hb dX11_gives_9 (by decide) ?_
    obtain ⟨v82, M83, e81, h⟩ := ob2 h
    obtain ⟨fs84, hb85⟩ := (rX11_error e81)
    refine bz_callV1 (pc := 10) (As := [.int (1 : Int32)]) (rest := []) X hM hl.1 k_RX11_73 (ctX11_error l e81) rfl hb85 rfl rfl ⟨(Nat.le_of_ble_eq_true rfl), (Nat.le_of_ble_eq_true rfl)⟩ (Nat.le_of_ble_eq_true rfl) ⟨(Nat.le_of_ble_eq_true rfl), (Nat.le_of_ble_eq_true rfl)⟩ dX11_gives_10 (fun H locs hM => ?_)
    obtain ⟨rfl, rfl⟩ := so2 h
    exact bz_iret (pc := 13) X hM hr hlk dX11_gives_13 (Nat.le_of_ble_eq_true rfl) (Nat.le_of_ble_eq_true rfl)
theorem rX11_gives {N : Nat} {M : Mm} {a0 : Nat} {a1 : Int32} {r9 : Int32 × Mm} (h : fX11_gives N M a0 a1 = some r9) : ∃ fs, M[a0]? = some (.inr (11, fs)) := by
  unfold fX11_gives at h
  obtain ⟨_, e1, _⟩ := ob h
  exact gC_spec e1
theorem ctX11_gives (l : Launch) {P : PT} {N : Nat} {M : Mm} {a0 : Nat} {a1 : Int32} {r9 : Int32} {M9 : Mm} (h : fX11_gives N M a0 a1 = some (r9, M9)) : Ct l yX11_gives cX11_gives 6 (some .int) 6 0 P [.ref (pB P + a0), .int a1] M (some (.int r9)) M9 :=
  Ct.mk (by decide +kernel) (Nat.le_of_ble_eq_true rfl) (fun p e s m args below meth c hX => wX11_gives hX M a0 a1 h)
set_option maxHeartbeats 4000000 in
set_option maxRecDepth 100000 in
theorem wX10_isSlides {p : Program} {l : Launch} {e : Env} {s : State} {m : MethodId} {args : Array Value} {below : List Frame} {meth : Method} {c : Code} {P : PT}  {r9 : Int32} (hX : Cy p s m args c meth cX10_isSlides 1 RX10 "isSlides" (some .boolean) P)  (M : Mm) (a0 : Int32) (h : fX10_isSlides M a0 = some r9) : Wq p l e s m args below meth c 1 0 (some (.int r9)) M 1 P 0 0 [(0, .int a0)] [] M := by
  unfold fX10_isSlides at h
  have hX0 := hX
  obtain ⟨X, hr, hlk, hnm⟩ := hX0
  have hx := X.1.1
  have hb := X.1.2.1
  intro H locs ls hM hl
  refine lv_iload_n (pc := 0) hx hb dX10_isSlides_0 rfl (lv_at hl 0 rfl) ?_
  refine lv_iconst (pc := 1) (v := (1 : Int32)) hx hb dX10_isSlides_1 (by decide) ?_
  refine lv_bipush (pc := 2) (v := (40 : Int32)) hx hb dX10_isSlides_2 (by decide) ?_
  obtain ⟨v2, e1, h⟩ := ob h
  refine bz_callS1 (pc := 4) (As := [.int a0, .int (1 : Int32), .int (40 : Int32)]) (rest := []) X hM hl.1 k_RX10_74 (ctX10_within l e1) rfl rfl ⟨(Nat.le_of_ble_eq_true rfl), (Nat.le_of_ble_eq_true rfl)⟩ (Nat.le_of_ble_eq_true rfl) ⟨(Nat.le_of_ble_eq_true rfl), (Nat.le_of_ble_eq_true rfl)⟩ dX10_isSlides_4 (fun H locs hM => ?_)
  obtain ⟨v3, e4, h⟩ := ob h
  obtain rfl := so1 h
  exact bz_zretz (pc := 7) X hM hr hlk e4 dX10_isSlides_7 (Nat.le_of_ble_eq_true rfl) (Nat.le_of_ble_eq_true rfl)
theorem ctX10_isSlides (l : Launch) {P : PT} {M : Mm} {a0 : Int32} {r9 : Int32} (h : fX10_isSlides M a0 = some r9) : Ct l yX10_isSlides cX10_isSlides 1 (some .boolean) 1 0 P [.int a0] M (some (.int r9)) M :=
  Ct.mk (by decide +kernel) (Nat.le_of_ble_eq_true rfl) (fun p e s m args below meth c hX => wX10_isSlides hX M a0 h)
set_option maxHeartbeats 4000000 in
set_option maxRecDepth 100000 in
theorem wX10_isPart {p : Program} {l : Launch} {e : Env} {s : State} {m : MethodId} {args : Array Value} {below : List Frame} {meth : Method} {c : Code} {P : PT}  {r9 : Int32} (hX : Cy p s m args c meth cX10_isPart 1 RX10 "isPart" (some .boolean) P)  (M : Mm) (a0 : Int32) (h : fX10_isPart M a0 = some r9) : Wq p l e s m args below meth c 1 0 (some (.int r9)) M 1 P 0 0 [(0, .int a0)] [] M := by
  unfold fX10_isPart at h
  have hX0 := hX
  obtain ⟨X, hr, hlk, hnm⟩ := hX0
  have hx := X.1.1
  have hb := X.1.2.1
  intro H locs ls hM hl
  refine lv_iload_n (pc := 0) hx hb dX10_isPart_0 rfl (lv_at hl 0 rfl) ?_
  refine lv_iconst (pc := 1) (v := (0 : Int32)) hx hb dX10_isPart_1 (by decide) ?_
  refine lv_iconst (pc := 2) (v := (1 : Int32)) hx hb dX10_isPart_2 (by decide) ?_
  obtain ⟨v2, e1, h⟩ := ob h
  refine bz_callS1 (pc := 3) (As := [.int a0, .int (0 : Int32), .int (1 : Int32)]) (rest := []) X hM hl.1 k_RX10_74 (ctX10_within l e1) rfl rfl ⟨(Nat.le_of_ble_eq_true rfl), (Nat.le_of_ble_eq_true rfl)⟩ (Nat.le_of_ble_eq_true rfl) ⟨(Nat.le_of_ble_eq_true rfl), (Nat.le_of_ble_eq_true rfl)⟩ dX10_isPart_3 (fun H locs hM => ?_)
  obtain ⟨v3, e4, h⟩ := ob h
  obtain rfl := so1 h
  exact bz_zretz (pc := 6) X hM hr hlk e4 dX10_isPart_6 (Nat.le_of_ble_eq_true rfl) (Nat.le_of_ble_eq_true rfl)
theorem ctX10_isPart (l : Launch) {P : PT} {M : Mm} {a0 : Int32} {r9 : Int32} (h : fX10_isPart M a0 = some r9) : Ct l yX10_isPart cX10_isPart 1 (some .boolean) 1 0 P [.int a0] M (some (.int r9)) M :=
  Ct.mk (by decide +kernel) (Nat.le_of_ble_eq_true rfl) (fun p e s m args below meth c hX => wX10_isPart hX M a0 h)
set_option maxHeartbeats 4000000 in
set_option maxRecDepth 100000 in
theorem wBX5_take_43 {p : Program} {l : Launch} {e : Env} {s : State} {m : MethodId} {args : Array Value} {below : List Frame} {meth : Method} {c : Code} {P : PT} {N : Nat} {K43 : Mm → Nat → Nat → Nat → Int32 → Option (Mm)}  {M9 : Mm} (hX : Cy p s m args c meth cX5_take 7 RX5 "take" none P)  (hK43 : ∀ (M : Mm) (x0 : Nat) (x1 : Nat) (x2 : Nat) (x5 : Int32), K43 M x0 x1 x2 x5 = some M9 → Wq p l e s m args below meth c 4 0 none M9 7 P 0 43 [(0, .ref (pB P + x0)), (1, .ref (pB P + x1)), (2, .ref (pB P + x2)), (5, .int x5)] [] M) (M : Mm) (x0 : Nat) (x1 : Nat) (x2 : Nat) (x5 : Int32)  (h : BX5_take_43 N K43 M x0 x1 x2 x5 = some M9) : Wq p l e s m args below meth c 4 0 none M9 7 P 0 43 [(0, .ref (pB P + x0)), (1, .ref (pB P + x1)), (2, .ref (pB P + x2)), (5, .int x5)] [] M := by
  unfold BX5_take_43 at h
  have hX0 := hX
  obtain ⟨X, hr, hlk, hnm⟩ := hX0
  have hx := X.1.1
  have hb := X.1.2.1
  intro H locs ls hM hl
  refine lv_iload (pc := 43) hx hb dX5_take_43 (lv_at hl 3 rfl) ?_
  refine lv_aload_n (pc := 45) hx hb dX5_take_45 rfl (lv_at hl 0 rfl) ?_
  obtain ⟨v1, e2, h⟩ := ob h
  refine bz_getI (pc := 46) X hM fl_RX5_28 e2 dX5_take_46 ?_
  refine lv_icmp_gt (pc := 49) (tgt := 96) hx hb dX5_take_49 (by decide) (fun hc => ?_) (fun hc => ?_)
  · have h := if_t hc h
    obtain rfl := so1 h
    exact bz_vret (pc := 96) X hM hr hlk dX5_take_96 (Nat.le_of_ble_eq_true rfl) (Nat.le_of_ble_eq_true rfl)
  · have h := if_f hc h
    refine lv_aload_n (pc := 52) hx hb dX5_take_52 rfl (lv_at hl 1 rfl) ?_
    refine lv_aload_n (pc := 53) hx hb dX5_take_53 rfl (lv_at hl 2 rfl) ?_
    obtain ⟨v3, e4, h⟩ := ob h
    refine bz_getI (pc := 54) X hM fl_RX5_35 e4 dX5_take_54 ?_
    refine lv_iload (pc := 57) hx hb dX5_take_57 (lv_at hl 3 rfl) ?_
    refine lv_aload_n (pc := 59) hx hb dX5_take_59 rfl (lv_at hl 2 rfl) ?_
    obtain ⟨v5, e6, h⟩ := ob h
    refine bz_getI (pc := 60) X hM fl_RX5_51 e6 dX5_take_60 ?_
    refine lv_imul (pc := 63) hx hb dX5_take_63 ?_
    obtain ⟨v8, M9, e7, h⟩ := ob2 h
    obtain ⟨fs10, hb11⟩ := (rX1_meeting e7)
    refine bz_callV1 (pc := 64) (As := [.int v3, .int (x5 * v5)]) (rest := []) X hM hl.1 k_RX5_40 (ctX1_meeting l e7) rfl hb11 rfl rfl ⟨(Nat.le_of_ble_eq_true rfl), (Nat.le_of_ble_eq_true rfl)⟩ (Nat.le_of_ble_eq_true rfl) ⟨(Nat.le_of_ble_eq_true rfl), (Nat.le_of_ble_eq_true rfl)⟩ dX5_take_64 (fun H locs hM => ?_)
    refine lv_istore (pc := 67) (lv' := [(6, .int v8), (0, .ref (pB P + x0)), (1, .ref (pB P + x1)), (2, .ref (pB P + x2)), (5, .int x5)]) hx hb dX5_take_67 hl (by decide) rfl (fun ls hl => ?_)
    refine lv_aload_n (pc := 69) hx hb dX5_take_69 rfl (lv_at hl 1 rfl) ?_
    obtain ⟨q12, e13, h⟩ := ob h
    refine bz_getQ (pc := 70) X hM fl_RX5_14 e13 dX5_take_70 ?_
    refine lv_iload (pc := 73) hx hb dX5_take_73 (lv_at hl 0 rfl) ?_
    obtain ⟨v15, M16, e14, h⟩ := ob2 h
    obtain ⟨fs17, hb18⟩ := (rX3_add e14)
    refine bz_callV1 (pc := 75) (As := [.int v8]) (rest := []) X hM hl.1 k_RX5_44 (ctX3_add l e14) rfl hb18 rfl rfl ⟨(Nat.le_of_ble_eq_true rfl), (Nat.le_of_ble_eq_true rfl)⟩ (Nat.le_of_ble_eq_true rfl) ⟨(Nat.le_of_ble_eq_true rfl), (Nat.le_of_ble_eq_true rfl)⟩ dX5_take_75 (fun H locs hM => ?_)
    refine lv_pop (pc := 78) hx hb dX5_take_78 rfl ?_
    refine lv_aload_n (pc := 79) hx hb dX5_take_79 rfl (lv_at hl 1 rfl) ?_
    refine lv_dup (pc := 80) hx hb dX5_take_80 rfl ?_
    obtain ⟨v19, e20, h⟩ := ob h
    refine bz_getI (pc := 81) X hM fl_RX5_48 e20 dX5_take_81 ?_
    refine lv_iload (pc := 84) hx hb dX5_take_84 (lv_at hl 0 rfl) ?_
    refine lv_iadd (pc := 86) hx hb dX5_take_86 ?_
    obtain ⟨M21, e22, h⟩ := ob h
    refine bz_putI (pc := 87) X hM fp_RX5_48 (Or.inl rfl) e22 dX5_take_87 (fun H locs hM => ?_)
    refine lv_iinc (pc := 90) (v := (x5 + (1 : Int32))) (lv' := [(5, .int (x5 + (1 : Int32))), (6, .int v8), (0, .ref (pB P + x0)), (1, .ref (pB P + x1)), (2, .ref (pB P + x2))]) hx hb dX5_take_90 hl (k := 4) rfl rfl (by decide) rfl (fun ls hl => ?_)
    refine lv_goto (pc := 93) (tgt := 43) hx hb dX5_take_93 (by decide) ?_
    exact hK43 _ _ _ _ _ h H locs ls hM (lv_sub hl [2, 3, 4, 0] rfl)
set_option maxHeartbeats 4000000 in
set_option maxRecDepth 100000 in
theorem wLX5_take_43 {p : Program} {l : Launch} {e : Env} {s : State} {m : MethodId} {args : Array Value} {below : List Frame} {meth : Method} {c : Code} {P : PT} {N : Nat}  {M9 : Mm} (hX : Cy p s m args c meth cX5_take 7 RX5 "take" none P)   : ∀ (n : Nat) (M : Mm) (x0 : Nat) (x1 : Nat) (x2 : Nat) (x5 : Int32) , LX5_take_43 N n M x0 x1 x2 x5 = some M9 → Wq p l e s m args below meth c 4 0 none M9 7 P 0 43 [(0, .ref (pB P + x0)), (1, .ref (pB P + x1)), (2, .ref (pB P + x2)), (5, .int x5)] [] M := by
  intro n
  induction n with
  | zero => intro M x0 x1 x2 x5 h; cases h
  | succ n ih => intro M x0 x1 x2 x5 h; exact wBX5_take_43 hX ih M x0 x1 x2 x5 h
set_option maxHeartbeats 4000000 in
set_option maxRecDepth 100000 in
theorem wX5_take {p : Program} {l : Launch} {e : Env} {s : State} {m : MethodId} {args : Array Value} {below : List Frame} {meth : Method} {c : Code} {P : PT} {N : Nat}  {M9 : Mm} (hX : Cy p s m args c meth cX5_take 7 RX5 "take" none P)  (M : Mm) (a0 : Nat) (a1 : Nat) (a2 : Nat) (a3 : Int32) (a4 : Int32) (h : fX5_take N M a0 a1 a2 a3 a4 = some M9) : Wq p l e s m args below meth c 4 0 none M9 7 P 0 0 [(0, .ref (pB P + a0)), (1, .ref (pB P + a1)), (2, .ref (pB P + a2)), (3, .int a3), (4, .int a4)] [] M := by
  unfold fX5_take at h
  obtain ⟨_, _, h⟩ := ob h
  have hX0 := hX
  obtain ⟨X, hr, hlk, hnm⟩ := hX0
  have hx := X.1.1
  have hb := X.1.2.1
  intro H locs ls hM hl
  refine lv_aload_n (pc := 0) hx hb dX5_take_0 rfl (lv_at hl 1 rfl) ?_
  refine lv_iload_n (pc := 1) hx hb dX5_take_1 rfl (lv_at hl 3 rfl) ?_
  obtain ⟨M2, e1, h⟩ := ob h
  obtain ⟨fs3, hb4⟩ := (rX1_drawLine e1)
  refine bz_callV0 (pc := 2) (As := [.int a3]) (rest := []) X hM hl.1 k_RX5_23 (ctX1_drawLine l e1) rfl hb4 rfl rfl ⟨(Nat.le_of_ble_eq_true rfl), (Nat.le_of_ble_eq_true rfl)⟩ (Nat.le_of_ble_eq_true rfl) ⟨(Nat.le_of_ble_eq_true rfl), (Nat.le_of_ble_eq_true rfl)⟩ dX5_take_2 (fun H locs hM => ?_)
  refine lv_aload_n (pc := 5) hx hb dX5_take_5 rfl (lv_at hl 0 rfl) ?_
  refine lv_iload (pc := 6) hx hb dX5_take_6 (lv_at hl 4 rfl) ?_
  obtain ⟨M5, e6, h⟩ := ob h
  refine bz_putI (pc := 8) X hM fp_RX5_28 (Or.inl rfl) e6 dX5_take_8 (fun H locs hM => ?_)
  refine lv_aload_n (pc := 11) hx hb dX5_take_11 rfl (lv_at hl 0 rfl) ?_
  obtain ⟨q7, e8, h⟩ := ob h
  refine bz_getQ (pc := 12) X hM fl_RX5_14 e8 dX5_take_12 ?_
  obtain ⟨M10, e9, h⟩ := ob h
  obtain ⟨fs11, hb12⟩ := (rX3_clear e9)
  refine bz_callV0 (pc := 15) (As := []) (rest := []) X hM hl.1 k_RX5_32 (ctX3_clear l e9) rfl hb12 rfl rfl ⟨(Nat.le_of_ble_eq_true rfl), (Nat.le_of_ble_eq_true rfl)⟩ (Nat.le_of_ble_eq_true rfl) ⟨(Nat.le_of_ble_eq_true rfl), (Nat.le_of_ble_eq_true rfl)⟩ dX5_take_15 (fun H locs hM => ?_)
  refine lv_aload_n (pc := 18) hx hb dX5_take_18 rfl (lv_at hl 0 rfl) ?_
  obtain ⟨q13, e14, h⟩ := ob h
  refine bz_getQ (pc := 19) X hM fl_RX5_14 e14 dX5_take_19 ?_
  refine lv_aload_n (pc := 22) hx hb dX5_take_22 rfl (lv_at hl 1 rfl) ?_
  refine lv_aload_n (pc := 23) hx hb dX5_take_23 rfl (lv_at hl 2 rfl) ?_
  obtain ⟨v15, e16, h⟩ := ob h
  refine bz_getI (pc := 24) X hM fl_RX5_35 e16 dX5_take_24 ?_
  refine lv_iconst (pc := 27) (v := (0 : Int32)) hx hb dX5_take_27 (by decide) ?_
  obtain ⟨v18, M19, e17, h⟩ := ob2 h
  obtain ⟨fs20, hb21⟩ := (rX1_meeting e17)
  refine bz_callV1 (pc := 28) (As := [.int v15, .int (0 : Int32)]) (rest := [.ref (pB P + q13)]) X hM hl.1 k_RX5_40 (ctX1_meeting l e17) rfl hb21 rfl rfl ⟨(Nat.le_of_ble_eq_true rfl), (Nat.le_of_ble_eq_true rfl)⟩ (Nat.le_of_ble_eq_true rfl) ⟨(Nat.le_of_ble_eq_true rfl), (Nat.le_of_ble_eq_true rfl)⟩ dX5_take_28 (fun H locs hM => ?_)
  obtain ⟨v23, M24, e22, h⟩ := ob2 h
  obtain ⟨fs25, hb26⟩ := (rX3_add e22)
  refine bz_callV1 (pc := 31) (As := [.int v18]) (rest := []) X hM hl.1 k_RX5_44 (ctX3_add l e22) rfl hb26 rfl rfl ⟨(Nat.le_of_ble_eq_true rfl), (Nat.le_of_ble_eq_true rfl)⟩ (Nat.le_of_ble_eq_true rfl) ⟨(Nat.le_of_ble_eq_true rfl), (Nat.le_of_ble_eq_true rfl)⟩ dX5_take_31 (fun H locs hM => ?_)
  refine lv_pop (pc := 34) hx hb dX5_take_34 rfl ?_
  refine lv_aload_n (pc := 35) hx hb dX5_take_35 rfl (lv_at hl 0 rfl) ?_
  refine lv_iconst (pc := 36) (v := (0 : Int32)) hx hb dX5_take_36 (by decide) ?_
  obtain ⟨M27, e28, h⟩ := ob h
  refine bz_putI (pc := 37) X hM fp_RX5_48 (Or.inl rfl) e28 dX5_take_37 (fun H locs hM => ?_)
  refine lv_iconst (pc := 40) (v := (1 : Int32)) hx hb dX5_take_40 (by decide) ?_
  refine lv_istore (pc := 41) (lv' := [(5, .int (1 : Int32)), (0, .ref (pB P + a0)), (1, .ref (pB P + a1)), (2, .ref (pB P + a2)), (3, .int a3), (4, .int a4)]) hx hb dX5_take_41 hl (by decide) rfl (fun ls hl => ?_)
  exact wLX5_take_43 hX _ _ _ _ _ _ h H locs ls hM (lv_sub hl [1, 2, 3, 0] rfl)
theorem rX5_take {N : Nat} {M : Mm} {a0 : Nat} {a1 : Nat} {a2 : Nat} {a3 : Int32} {a4 : Int32} {r9 : Mm} (h : fX5_take N M a0 a1 a2 a3 a4 = some r9) : ∃ fs, M[a0]? = some (.inr (5, fs)) := by
  unfold fX5_take at h
  obtain ⟨_, e1, _⟩ := ob h
  exact gC_spec e1
theorem ctX5_take (l : Launch) {P : PT} {N : Nat} {M : Mm} {a0 : Nat} {a1 : Nat} {a2 : Nat} {a3 : Int32} {a4 : Int32} {M9 : Mm} (h : fX5_take N M a0 a1 a2 a3 a4 = some M9) : Ct l yX5_take cX5_take 7 none 4 0 P [.ref (pB P + a0), .ref (pB P + a1), .ref (pB P + a2), .int a3, .int a4] M none M9 :=
  Ct.mk (by decide +kernel) (Nat.le_of_ble_eq_true rfl) (fun p e s m args below meth c hX => wX5_take hX M a0 a1 a2 a3 a4 h)
set_option maxHeartbeats 4000000 in
set_option maxRecDepth 100000 in
theorem wBX5_slidWith_4 {p : Program} {l : Launch} {e : Env} {s : State} {m : MethodId} {args : Array Value} {below : List Frame} {meth : Method} {c : Code} {P : PT} {N : Nat} {K4 : Mm → Nat → Int32 → Int32 → Int32 → Option (Int32)}  {r9 : Int32} (hX : Cy p s m args c meth cX5_slidWith 4 RX5 "slidWith" (some .int) P)  (hK4 : ∀ (M : Mm) (x0 : Nat) (x1 : Int32) (x2 : Int32) (x3 : Int32), K4 M x0 x1 x2 x3 = some r9 → Wq p l e s m args below meth c 1 0 (some (.int r9)) M 4 P 0 4 [(0, .ref (pB P + x0)), (1, .int x1), (2, .int x2), (3, .int x3)] [] M) (M : Mm) (x0 : Nat) (x1 : Int32) (x2 : Int32) (x3 : Int32)  (h : BX5_slidWith_4 N K4 M x0 x1 x2 x3 = some r9) : Wq p l e s m args below meth c 1 0 (some (.int r9)) M 4 P 0 4 [(0, .ref (pB P + x0)), (1, .int x1), (2, .int x2), (3, .int x3)] [] M := by
  unfold BX5_slidWith_4 at h
  have hX0 := hX
  obtain ⟨X, hr, hlk, hnm⟩ := hX0
  have hx := X.1.1
  have hb := X.1.2.1
  intro H locs ls hM hl
  refine lv_iload_n (pc := 4) hx hb dX5_slidWith_4 rfl (lv_at hl 3 rfl) ?_
  refine lv_aload_n (pc := 5) hx hb dX5_slidWith_5 rfl (lv_at hl 0 rfl) ?_
  obtain ⟨v1, e2, h⟩ := ob h
  refine bz_getI (pc := 6) X hM fl_RX5_28 e2 dX5_slidWith_6 ?_
  refine lv_icmp_gt (pc := 9) (tgt := 33) hx hb dX5_slidWith_9 (by decide) (fun hc => ?_) (fun hc => ?_)
  · have h := if_t hc h
    refine lv_iload_n (pc := 33) hx hb dX5_slidWith_33 rfl (lv_at hl 2 rfl) ?_
    obtain rfl := so1 h
    exact bz_iret (pc := 34) X hM hr hlk dX5_slidWith_34 (Nat.le_of_ble_eq_true rfl) (Nat.le_of_ble_eq_true rfl)
  · have h := if_f hc h
    refine lv_aload_n (pc := 12) hx hb dX5_slidWith_12 rfl (lv_at hl 0 rfl) ?_
    obtain ⟨q3, e4, h⟩ := ob h
    refine bz_getQ (pc := 13) X hM fl_RX5_14 e4 dX5_slidWith_13 ?_
    refine lv_iload_n (pc := 16) hx hb dX5_slidWith_16 rfl (lv_at hl 3 rfl) ?_
    obtain ⟨v6, e5, h⟩ := ob h
    obtain ⟨fs7, hb8⟩ := (rX3_at e5)
    refine bz_callV1 (pc := 17) (As := [.int x3]) (rest := []) X hM hl.1 k_RX5_54 (ctX3_at l e5) rfl hb8 rfl rfl ⟨(Nat.le_of_ble_eq_true rfl), (Nat.le_of_ble_eq_true rfl)⟩ (Nat.le_of_ble_eq_true rfl) ⟨(Nat.le_of_ble_eq_true rfl), (Nat.le_of_ble_eq_true rfl)⟩ dX5_slidWith_17 (fun H locs hM => ?_)
    refine lv_iload_n (pc := 20) hx hb dX5_slidWith_20 rfl (lv_at hl 1 rfl) ?_
    refine lv_icmp_lt (pc := 21) (tgt := 27) hx hb dX5_slidWith_21 (by decide) (fun hc => ?_) (fun hc => ?_)
    · have h := if_t hc h
      refine lv_iinc (pc := 27) (v := (x3 + (1 : Int32))) (lv' := [(3, .int (x3 + (1 : Int32))), (0, .ref (pB P + x0)), (1, .int x1), (2, .int x2)]) hx hb dX5_slidWith_27 hl (k := 3) rfl rfl (by decide) rfl (fun ls hl => ?_)
      refine lv_goto (pc := 30) (tgt := 4) hx hb dX5_slidWith_30 (by decide) ?_
      exact hK4 _ _ _ _ _ h H locs ls hM (lv_sub hl [1, 2, 3, 0] rfl)
    · have h := if_f hc h
      refine lv_iinc (pc := 24) (v := (x2 + (1 : Int32))) (lv' := [(2, .int (x2 + (1 : Int32))), (0, .ref (pB P + x0)), (1, .int x1), (3, .int x3)]) hx hb dX5_slidWith_24 hl (k := 2) rfl rfl (by decide) rfl (fun ls hl => ?_)
      refine lv_iinc (pc := 27) (v := (x3 + (1 : Int32))) (lv' := [(3, .int (x3 + (1 : Int32))), (2, .int (x2 + (1 : Int32))), (0, .ref (pB P + x0)), (1, .int x1)]) hx hb dX5_slidWith_27 hl (k := 3) rfl rfl (by decide) rfl (fun ls hl => ?_)
      refine lv_goto (pc := 30) (tgt := 4) hx hb dX5_slidWith_30 (by decide) ?_
      exact hK4 _ _ _ _ _ h H locs ls hM (lv_sub hl [2, 3, 1, 0] rfl)
set_option maxHeartbeats 4000000 in
set_option maxRecDepth 100000 in
theorem wLX5_slidWith_4 {p : Program} {l : Launch} {e : Env} {s : State} {m : MethodId} {args : Array Value} {below : List Frame} {meth : Method} {c : Code} {P : PT} {N : Nat}  {r9 : Int32} (hX : Cy p s m args c meth cX5_slidWith 4 RX5 "slidWith" (some .int) P)   : ∀ (n : Nat) (M : Mm) (x0 : Nat) (x1 : Int32) (x2 : Int32) (x3 : Int32) , LX5_slidWith_4 N n M x0 x1 x2 x3 = some r9 → Wq p l e s m args below meth c 1 0 (some (.int r9)) M 4 P 0 4 [(0, .ref (pB P + x0)), (1, .int x1), (2, .int x2), (3, .int x3)] [] M := by
  intro n
  induction n with
  | zero => intro M x0 x1 x2 x3 h; cases h
  | succ n ih => intro M x0 x1 x2 x3 h; exact wBX5_slidWith_4 hX ih M x0 x1 x2 x3 h
set_option maxHeartbeats 4000000 in
set_option maxRecDepth 100000 in
theorem wX5_slidWith {p : Program} {l : Launch} {e : Env} {s : State} {m : MethodId} {args : Array Value} {below : List Frame} {meth : Method} {c : Code} {P : PT} {N : Nat}  {r9 : Int32} (hX : Cy p s m args c meth cX5_slidWith 4 RX5 "slidWith" (some .int) P)  (M : Mm) (a0 : Nat) (a1 : Int32) (h : fX5_slidWith N M a0 a1 = some r9) : Wq p l e s m args below meth c 1 0 (some (.int r9)) M 4 P 0 0 [(0, .ref (pB P + a0)), (1, .int a1)] [] M := by
  unfold fX5_slidWith at h
  obtain ⟨_, _, h⟩ := ob h
  have hX0 := hX
  obtain ⟨X, hr, hlk, hnm⟩ := hX0
  have hx := X.1.1
  have hb := X.1.2.1
  intro H locs ls hM hl
  refine lv_iconst (pc := 0) (v := (0 : Int32)) hx hb dX5_slidWith_0 (by decide) ?_
  refine lv_istore_n (pc := 1) (lv' := [(2, .int (0 : Int32)), (0, .ref (pB P + a0)), (1, .int a1)]) hx hb dX5_slidWith_1 rfl hl (by decide) rfl (fun ls hl => ?_)
  refine lv_iconst (pc := 2) (v := (1 : Int32)) hx hb dX5_slidWith_2 (by decide) ?_
  refine lv_istore_n (pc := 3) (lv' := [(3, .int (1 : Int32)), (2, .int (0 : Int32)), (0, .ref (pB P + a0)), (1, .int a1)]) hx hb dX5_slidWith_3 rfl hl (by decide) rfl (fun ls hl => ?_)
  exact wLX5_slidWith_4 hX _ _ _ _ _ _ h H locs ls hM (lv_sub hl [2, 3, 1, 0] rfl)
theorem rX5_slidWith {N : Nat} {M : Mm} {a0 : Nat} {a1 : Int32} {r9 : Int32} (h : fX5_slidWith N M a0 a1 = some r9) : ∃ fs, M[a0]? = some (.inr (5, fs)) := by
  unfold fX5_slidWith at h
  obtain ⟨_, e1, _⟩ := ob h
  exact gC_spec e1
theorem ctX5_slidWith (l : Launch) {P : PT} {N : Nat} {M : Mm} {a0 : Nat} {a1 : Int32} {r9 : Int32} (h : fX5_slidWith N M a0 a1 = some r9) : Ct l yX5_slidWith cX5_slidWith 4 (some .int) 1 0 P [.ref (pB P + a0), .int a1] M (some (.int r9)) M :=
  Ct.mk (by decide +kernel) (Nat.le_of_ble_eq_true rfl) (fun p e s m args below meth c hX => wX5_slidWith hX M a0 a1 h)
set_option maxHeartbeats 4000000 in
set_option maxRecDepth 100000 in
theorem wX5_noFewer {p : Program} {l : Launch} {e : Env} {s : State} {m : MethodId} {args : Array Value} {below : List Frame} {meth : Method} {c : Code} {P : PT} {N : Nat}  {r9 : Int32} (hX : Cy p s m args c meth cX5_noFewer 1 RX5 "noFewer" (some .int) P)  (M : Mm) (a0 : Nat) (h : fX5_noFewer N M a0 = some r9) : Wq p l e s m args below meth c 2 0 (some (.int r9)) M 1 P 0 0 [(0, .ref (pB P + a0))] [] M := by
  unfold fX5_noFewer at h
  obtain ⟨_, _, h⟩ := ob h
  have hX0 := hX
  obtain ⟨X, hr, hlk, hnm⟩ := hX0
  have hx := X.1.1
  have hb := X.1.2.1
  intro H locs ls hM hl
  refine lv_aload_n (pc := 0) hx hb dX5_noFewer_0 rfl (lv_at hl 0 rfl) ?_
  refine lv_aload_n (pc := 1) hx hb dX5_noFewer_1 rfl (lv_at hl 0 rfl) ?_
  obtain ⟨q1, e2, h⟩ := ob h
  refine bz_getQ (pc := 2) X hM fl_RX5_14 e2 dX5_noFewer_2 ?_
  refine lv_iconst (pc := 5) (v := (0 : Int32)) hx hb dX5_noFewer_5 (by decide) ?_
  obtain ⟨v4, e3, h⟩ := ob h
  obtain ⟨fs5, hb6⟩ := (rX3_at e3)
  refine bz_callV1 (pc := 6) (As := [.int (0 : Int32)]) (rest := [.ref (pB P + a0)]) X hM hl.1 k_RX5_54 (ctX3_at l e3) rfl hb6 rfl rfl ⟨(Nat.le_of_ble_eq_true rfl), (Nat.le_of_ble_eq_true rfl)⟩ (Nat.le_of_ble_eq_true rfl) ⟨(Nat.le_of_ble_eq_true rfl), (Nat.le_of_ble_eq_true rfl)⟩ dX5_noFewer_6 (fun H locs hM => ?_)
  obtain ⟨v8, e7, h⟩ := ob h
  obtain ⟨fs9, hb10⟩ := (rX5_slidWith e7)
  refine bz_callV1 (pc := 9) (As := [.int v4]) (rest := []) X hM hl.1 k_RX5_58 (ctX5_slidWith l e7) rfl hb10 rfl rfl ⟨(Nat.le_of_ble_eq_true rfl), (Nat.le_of_ble_eq_true rfl)⟩ (Nat.le_of_ble_eq_true rfl) ⟨(Nat.le_of_ble_eq_true rfl), (Nat.le_of_ble_eq_true rfl)⟩ dX5_noFewer_9 (fun H locs hM => ?_)
  obtain rfl := so1 h
  exact bz_iret (pc := 12) X hM hr hlk dX5_noFewer_12 (Nat.le_of_ble_eq_true rfl) (Nat.le_of_ble_eq_true rfl)
theorem rX5_noFewer {N : Nat} {M : Mm} {a0 : Nat} {r9 : Int32} (h : fX5_noFewer N M a0 = some r9) : ∃ fs, M[a0]? = some (.inr (5, fs)) := by
  unfold fX5_noFewer at h
  obtain ⟨_, e1, _⟩ := ob h
  exact gC_spec e1
theorem ctX5_noFewer (l : Launch) {P : PT} {N : Nat} {M : Mm} {a0 : Nat} {r9 : Int32} (h : fX5_noFewer N M a0 = some r9) : Ct l yX5_noFewer cX5_noFewer 1 (some .int) 2 0 P [.ref (pB P + a0)] M (some (.int r9)) M :=
  Ct.mk (by decide +kernel) (Nat.le_of_ble_eq_true rfl) (fun p e s m args below meth c hX => wX5_noFewer hX M a0 h)
set_option maxHeartbeats 4000000 in
set_option maxRecDepth 100000 in
theorem wBX10_greatestShared_9 {p : Program} {l : Launch} {e : Env} {s : State} {m : MethodId} {args : Array Value} {below : List Frame} {meth : Method} {c : Code} {P : PT} {N : Nat} {K9 : Mm → Int64 → Int64 → Int32 → Option (Int64)}  {r9 : Int64} (hX : Cy p s m args c meth cX10_greatestShared 11 RX10 "greatestShared" (some .long) P)  (hK9 : ∀ (M : Mm) (x4 : Int64) (x6 : Int64) (x8 : Int32), K9 M x4 x6 x8 = some r9 → Wq p l e s m args below meth c 0 0 (some (.long r9)) M 11 P 0 9 [(4, .long x4), (6, .long x6), (8, .int x8)] [] M) (M : Mm) (x4 : Int64) (x6 : Int64) (x8 : Int32)  (h : BX10_greatestShared_9 N K9 M x4 x6 x8 = some r9) : Wq p l e s m args below meth c 0 0 (some (.long r9)) M 11 P 0 9 [(4, .long x4), (6, .long x6), (8, .int x8)] [] M := by
  unfold BX10_greatestShared_9 at h
  have hX0 := hX
  obtain ⟨X, hr, hlk, hnm⟩ := hX0
  have hx := X.1.1
  have hb := X.1.2.1
  intro H locs ls hM hl
  refine lv_iload (pc := 9) hx hb dX10_greatestShared_9 (lv_at hl 2 rfl) ?_
  refine lv_sipush (pc := 11) (v := (200 : Int32)) hx hb dX10_greatestShared_11 (by decide) ?_
  refine lv_icmp_ge (pc := 14) (tgt := 45) hx hb dX10_greatestShared_14 (by decide) (fun hc => ?_) (fun hc => ?_)
  · have h := if_t hc h
    refine lv_lload (pc := 45) hx hb dX10_greatestShared_45 (lv_at hl 0 rfl) ?_
    obtain rfl := so1 h
    exact bz_lret (pc := 47) X hM hr hlk dX10_greatestShared_47 (Nat.le_of_ble_eq_true rfl) (Nat.le_of_ble_eq_true rfl)
  · have h := if_f hc h
    refine lv_lload (pc := 17) hx hb dX10_greatestShared_17 (lv_at hl 1 rfl) ?_
    refine lv_lconst (pc := 19) (v := (0 : Int64)) hx hb dX10_greatestShared_19 (by decide) ?_
    refine W.lcmp (pc := 20) hx hb dX10_greatestShared_20 ?_
    refine lv_if_eq (pc := 21) (tgt := 45) hx hb dX10_greatestShared_21 (by decide) (fun hc => ?_) (fun hc => ?_)
    · have h := if_t hc h
      refine lv_lload (pc := 45) hx hb dX10_greatestShared_45 (lv_at hl 0 rfl) ?_
      obtain rfl := so1 h
      exact bz_lret (pc := 47) X hM hr hlk dX10_greatestShared_47 (Nat.le_of_ble_eq_true rfl) (Nat.le_of_ble_eq_true rfl)
    · have h := if_f hc h
      refine lv_lload (pc := 24) hx hb dX10_greatestShared_24 (lv_at hl 0 rfl) ?_
      refine lv_lload (pc := 26) hx hb dX10_greatestShared_26 (lv_at hl 1 rfl) ?_
      obtain ⟨v1, e2, h⟩ := ob h
      refine bz_lmod (pc := 28) hx hb e2 dX10_greatestShared_28 ?_
      refine lv_lstore (pc := 29) (lv' := [(9, .long v1), (4, .long x4), (6, .long x6), (8, .int x8)]) hx hb dX10_greatestShared_29 hl (by decide) rfl (fun ls hl => ?_)
      refine lv_lload (pc := 31) hx hb dX10_greatestShared_31 (lv_at hl 2 rfl) ?_
      refine lv_lstore (pc := 33) (lv' := [(4, .long x6), (9, .long v1), (6, .long x6), (8, .int x8)]) hx hb dX10_greatestShared_33 hl (by decide) rfl (fun ls hl => ?_)
      refine lv_lload (pc := 35) hx hb dX10_greatestShared_35 (lv_at hl 1 rfl) ?_
      refine lv_lstore (pc := 37) (lv' := [(6, .long v1), (4, .long x6), (9, .long v1), (8, .int x8)]) hx hb dX10_greatestShared_37 hl (by decide) rfl (fun ls hl => ?_)
      refine lv_iinc (pc := 39) (v := (x8 + (1 : Int32))) (lv' := [(8, .int (x8 + (1 : Int32))), (6, .long v1), (4, .long x6), (9, .long v1)]) hx hb dX10_greatestShared_39 hl (k := 3) rfl rfl (by decide) rfl (fun ls hl => ?_)
      refine lv_goto (pc := 42) (tgt := 9) hx hb dX10_greatestShared_42 (by decide) ?_
      exact hK9 _ _ _ _ h H locs ls hM (lv_sub hl [2, 1, 0] rfl)
set_option maxHeartbeats 4000000 in
set_option maxRecDepth 100000 in
theorem wLX10_greatestShared_9 {p : Program} {l : Launch} {e : Env} {s : State} {m : MethodId} {args : Array Value} {below : List Frame} {meth : Method} {c : Code} {P : PT} {N : Nat}  {r9 : Int64} (hX : Cy p s m args c meth cX10_greatestShared 11 RX10 "greatestShared" (some .long) P)   : ∀ (n : Nat) (M : Mm) (x4 : Int64) (x6 : Int64) (x8 : Int32) , LX10_greatestShared_9 N n M x4 x6 x8 = some r9 → Wq p l e s m args below meth c 0 0 (some (.long r9)) M 11 P 0 9 [(4, .long x4), (6, .long x6), (8, .int x8)] [] M := by
  intro n
  induction n with
  | zero => intro M x4 x6 x8 h; cases h
  | succ n ih => intro M x4 x6 x8 h; exact wBX10_greatestShared_9 hX ih M x4 x6 x8 h
set_option maxHeartbeats 4000000 in
set_option maxRecDepth 100000 in
theorem wX10_greatestShared {p : Program} {l : Launch} {e : Env} {s : State} {m : MethodId} {args : Array Value} {below : List Frame} {meth : Method} {c : Code} {P : PT} {N : Nat}  {r9 : Int64} (hX : Cy p s m args c meth cX10_greatestShared 11 RX10 "greatestShared" (some .long) P)  (M : Mm) (a0 : Int64) (a2 : Int64) (h : fX10_greatestShared N M a0 a2 = some r9) : Wq p l e s m args below meth c 0 0 (some (.long r9)) M 11 P 0 0 [(0, .long a0), (2, .long a2)] [] M := by
  unfold fX10_greatestShared at h
  have hX0 := hX
  obtain ⟨X, hr, hlk, hnm⟩ := hX0
  have hx := X.1.1
  have hb := X.1.2.1
  intro H locs ls hM hl
  refine lv_lload_n (pc := 0) hx hb dX10_greatestShared_0 rfl (lv_at hl 0 rfl) ?_
  refine lv_lstore (pc := 1) (lv' := [(4, .long a0), (0, .long a0), (2, .long a2)]) hx hb dX10_greatestShared_1 hl (by decide) rfl (fun ls hl => ?_)
  refine lv_lload_n (pc := 3) hx hb dX10_greatestShared_3 rfl (lv_at hl 2 rfl) ?_
  refine lv_lstore (pc := 4) (lv' := [(6, .long a2), (4, .long a0), (0, .long a0), (2, .long a2)]) hx hb dX10_greatestShared_4 hl (by decide) rfl (fun ls hl => ?_)
  refine lv_iconst (pc := 6) (v := (0 : Int32)) hx hb dX10_greatestShared_6 (by decide) ?_
  refine lv_istore (pc := 7) (lv' := [(8, .int (0 : Int32)), (6, .long a2), (4, .long a0), (0, .long a0), (2, .long a2)]) hx hb dX10_greatestShared_7 hl (by decide) rfl (fun ls hl => ?_)
  exact wLX10_greatestShared_9 hX _ _ _ _ _ h H locs ls hM (lv_sub hl [2, 1, 0] rfl)
theorem ctX10_greatestShared (l : Launch) {P : PT} {N : Nat} {M : Mm} {a0 : Int64} {a2 : Int64} {r9 : Int64} (h : fX10_greatestShared N M a0 a2 = some r9) : Ct l yX10_greatestShared cX10_greatestShared 11 (some .long) 0 0 P [.long a0, .long a2] M (some (.long r9)) M :=
  Ct.mk (by decide +kernel) (Nat.le_of_ble_eq_true rfl) (fun p e s m args below meth c hX => wX10_greatestShared hX M a0 a2 h)
set_option maxHeartbeats 4000000 in
set_option maxRecDepth 100000 in
theorem wjX10_inLowestTerms_15 {p : Program} {l : Launch} {e : Env} {s : State} {m : MethodId} {args : Array Value} {below : List Frame} {meth : Method} {c : Code} {P : PT} {N : Nat}  {r9 : Int64} (hX : Cy p s m args c meth cX10_inLowestTerms 7 RX10 "inLowestTerms" (some .long) P)   (M : Mm) (x0 : Int64) (x2 : Int64) (x4 : Int32) (s0 : Int64) (h : jX10_inLowestTerms_15 N M x0 x2 x4 s0 = some r9) : Wq p l e s m args below meth c 1 0 (some (.long r9)) M 7 P 0 15 [(0, .long x0), (2, .long x2), (4, .int x4)] [.long s0] M := by
  unfold jX10_inLowestTerms_15 at h
  have hX0 := hX
  obtain ⟨X, hr, hlk, hnm⟩ := hX0
  have hx := X.1.1
  have hb := X.1.2.1
  intro H locs ls hM hl
  refine lv_lstore (pc := 15) (lv' := [(5, .long s0), (0, .long x0), (2, .long x2), (4, .int x4)]) hx hb dX10_inLowestTerms_15 hl (by decide) rfl (fun ls hl => ?_)
  refine lv_lload (pc := 17) hx hb dX10_inLowestTerms_17 (lv_at hl 0 rfl) ?_
  refine lv_lconst (pc := 19) (v := (0 : Int64)) hx hb dX10_inLowestTerms_19 (by decide) ?_
  refine W.lcmp (pc := 20) hx hb dX10_inLowestTerms_20 ?_
  refine lv_if_ne (pc := 21) (tgt := 35) hx hb dX10_inLowestTerms_21 (by decide) (fun hc => ?_) (fun hc => ?_)
  · have h := if_f hc h
    refine lv_iload (pc := 35) hx hb dX10_inLowestTerms_35 (lv_at hl 3 rfl) ?_
    refine lv_if_ne (pc := 37) (tgt := 44) hx hb dX10_inLowestTerms_37 (by decide) (fun hc => ?_) (fun hc => ?_)
    · have h := if_f hc h
      refine lv_lload_n (pc := 44) hx hb dX10_inLowestTerms_44 rfl (lv_at hl 2 rfl) ?_
      refine lv_lload (pc := 45) hx hb dX10_inLowestTerms_45 (lv_at hl 0 rfl) ?_
      obtain ⟨v1, e2, h⟩ := ob h
      refine bz_ldiv (pc := 47) hx hb e2 dX10_inLowestTerms_47 ?_
      obtain rfl := so1 h
      exact bz_lret (pc := 48) X hM hr hlk dX10_inLowestTerms_48 (Nat.le_of_ble_eq_true rfl) (Nat.le_of_ble_eq_true rfl)
    · have h := if_t hc h
      refine lv_lload_n (pc := 40) hx hb dX10_inLowestTerms_40 rfl (lv_at hl 1 rfl) ?_
      refine lv_goto (pc := 41) (tgt := 45) hx hb dX10_inLowestTerms_41 (by decide) ?_
      refine lv_lload (pc := 45) hx hb dX10_inLowestTerms_45 (lv_at hl 0 rfl) ?_
      obtain ⟨v3, e4, h⟩ := ob h
      refine bz_ldiv (pc := 47) hx hb e4 dX10_inLowestTerms_47 ?_
      obtain rfl := so1 h
      exact bz_lret (pc := 48) X hM hr hlk dX10_inLowestTerms_48 (Nat.le_of_ble_eq_true rfl) (Nat.le_of_ble_eq_true rfl)
  · have h := if_t hc h
    refine lv_iload (pc := 24) hx hb dX10_inLowestTerms_24 (lv_at hl 3 rfl) ?_
    refine lv_if_ne (pc := 26) (tgt := 33) hx hb dX10_inLowestTerms_26 (by decide) (fun hc => ?_) (fun hc => ?_)
    · have h := if_f hc h
      refine lv_lconst (pc := 33) (v := (1 : Int64)) hx hb dX10_inLowestTerms_33 (by decide) ?_
      obtain rfl := so1 h
      exact bz_lret (pc := 34) X hM hr hlk dX10_inLowestTerms_34 (Nat.le_of_ble_eq_true rfl) (Nat.le_of_ble_eq_true rfl)
    · have h := if_t hc h
      refine lv_lconst (pc := 29) (v := (0 : Int64)) hx hb dX10_inLowestTerms_29 (by decide) ?_
      refine lv_goto (pc := 30) (tgt := 34) hx hb dX10_inLowestTerms_30 (by decide) ?_
      obtain rfl := so1 h
      exact bz_lret (pc := 34) X hM hr hlk dX10_inLowestTerms_34 (Nat.le_of_ble_eq_true rfl) (Nat.le_of_ble_eq_true rfl)
set_option maxHeartbeats 4000000 in
set_option maxRecDepth 100000 in
theorem wX10_inLowestTerms {p : Program} {l : Launch} {e : Env} {s : State} {m : MethodId} {args : Array Value} {below : List Frame} {meth : Method} {c : Code} {P : PT} {N : Nat}  {r9 : Int64} (hX : Cy p s m args c meth cX10_inLowestTerms 7 RX10 "inLowestTerms" (some .long) P)  (M : Mm) (a0 : Int64) (a2 : Int64) (a4 : Int32) (h : fX10_inLowestTerms N M a0 a2 a4 = some r9) : Wq p l e s m args below meth c 1 0 (some (.long r9)) M 7 P 0 0 [(0, .long a0), (2, .long a2), (4, .int a4)] [] M := by
  unfold fX10_inLowestTerms at h
  have hX0 := hX
  obtain ⟨X, hr, hlk, hnm⟩ := hX0
  have hx := X.1.1
  have hb := X.1.2.1
  intro H locs ls hM hl
  refine lv_lload_n (pc := 0) hx hb dX10_inLowestTerms_0 rfl (lv_at hl 0 rfl) ?_
  refine lv_lconst (pc := 1) (v := (0 : Int64)) hx hb dX10_inLowestTerms_1 (by decide) ?_
  refine W.lcmp (pc := 2) hx hb dX10_inLowestTerms_2 ?_
  refine lv_if_ne (pc := 3) (tgt := 10) hx hb dX10_inLowestTerms_3 (by decide) (fun hc => ?_) (fun hc => ?_)
  · have h := if_f hc h
    refine lv_lload_n (pc := 10) hx hb dX10_inLowestTerms_10 rfl (lv_at hl 0 rfl) ?_
    refine lv_lload_n (pc := 11) hx hb dX10_inLowestTerms_11 rfl (lv_at hl 1 rfl) ?_
    obtain ⟨v2, e1, h⟩ := ob h
    refine bz_callS1 (pc := 12) (As := [.long a0, .long a2]) (rest := []) X hM hl.1 k_RX10_414 (ctX10_greatestShared l e1) rfl rfl ⟨(Nat.le_of_ble_eq_true rfl), (Nat.le_of_ble_eq_true rfl)⟩ (Nat.le_of_ble_eq_true rfl) ⟨(Nat.le_of_ble_eq_true rfl), (Nat.le_of_ble_eq_true rfl)⟩ dX10_inLowestTerms_12 (fun H locs hM => ?_)
    exact wjX10_inLowestTerms_15 hX _ _ _ _ _ h H locs ls hM (lv_sub hl [0, 1, 2] rfl)
  · have h := if_t hc h
    refine lv_lconst (pc := 6) (v := (0 : Int64)) hx hb dX10_inLowestTerms_6 (by decide) ?_
    refine lv_goto (pc := 7) (tgt := 15) hx hb dX10_inLowestTerms_7 (by decide) ?_
    exact wjX10_inLowestTerms_15 hX _ _ _ _ _ h H locs ls hM (lv_sub hl [0, 1, 2] rfl)
theorem ctX10_inLowestTerms (l : Launch) {P : PT} {N : Nat} {M : Mm} {a0 : Int64} {a2 : Int64} {a4 : Int32} {r9 : Int64} (h : fX10_inLowestTerms N M a0 a2 a4 = some r9) : Ct l yX10_inLowestTerms cX10_inLowestTerms 7 (some .long) 1 0 P [.long a0, .long a2, .int a4] M (some (.long r9)) M :=
  Ct.mk (by decide +kernel) (Nat.le_of_ble_eq_true rfl) (fun p e s m args below meth c hX => wX10_inLowestTerms hX M a0 a2 a4 h)
set_option maxHeartbeats 4000000 in
set_option maxRecDepth 100000 in
theorem wjX10_chance_29 {p : Program} {l : Launch} {e : Env} {s : State} {m : MethodId} {args : Array Value} {below : List Frame} {meth : Method} {c : Code} {P : PT} {N : Nat}  {r9 : Int32} {M9 : Mm} (hX : Cy p s m args c meth cX10_chance 5 RX10 "chance" (some .int) P)   (M : Mm) (x0 : Nat)  (h : jX10_chance_29 N M x0 = some (r9, M9)) : Wq p l e s m args below meth c 6 0 (some (.int r9)) M9 5 P 0 29 [(0, .ref (pB P + x0))] [] M := by
  unfold jX10_chance_29 at h
  have hX0 := hX
  obtain ⟨X, hr, hlk, hnm⟩ := hX0
  have hx := X.1.1
  have hb := X.1.2.1
  intro H locs ls hM hl
  refine lv_aload_n (pc := 29) hx hb dX10_chance_29 rfl (lv_at hl 0 rfl) ?_
  refine lv_iconst (pc := 30) (v := (1 : Int32)) hx hb dX10_chance_30 (by decide) ?_
  obtain ⟨v2, M3, e1, h⟩ := ob2 h
  obtain ⟨fs4, hb5⟩ := (rX10_error e1)
  refine bz_callV1 (pc := 31) (As := [.int (1 : Int32)]) (rest := []) X hM hl.1 k_RX10_78 (ctX10_error l e1) rfl hb5 rfl rfl ⟨(Nat.le_of_ble_eq_true rfl), (Nat.le_of_ble_eq_true rfl)⟩ (Nat.le_of_ble_eq_true rfl) ⟨(Nat.le_of_ble_eq_true rfl), (Nat.le_of_ble_eq_true rfl)⟩ dX10_chance_31 (fun H locs hM => ?_)
  obtain ⟨rfl, rfl⟩ := so2 h
  exact bz_iret (pc := 34) X hM hr hlk dX10_chance_34 (Nat.le_of_ble_eq_true rfl) (Nat.le_of_ble_eq_true rfl)
set_option maxHeartbeats 4000000 in
set_option maxRecDepth 100000 in
theorem wX10_chance {p : Program} {l : Launch} {e : Env} {s : State} {m : MethodId} {args : Array Value} {below : List Frame} {meth : Method} {c : Code} {P : PT} {N : Nat}  {r9 : Int32} {M9 : Mm} (hX : Cy p s m args c meth cX10_chance 5 RX10 "chance" (some .int) P)  (M : Mm) (a0 : Nat) (a1 : Int32) (a2 : Int32) (a3 : Int32) (h : fX10_chance N M a0 a1 a2 a3 = some (r9, M9)) : Wq p l e s m args below meth c 6 0 (some (.int r9)) M9 5 P 0 0 [(0, .ref (pB P + a0)), (1, .int a1), (2, .int a2), (3, .int a3)] [] M := by
  unfold fX10_chance at h
  obtain ⟨_, _, h⟩ := ob h
  have hX0 := hX
  obtain ⟨X, hr, hlk, hnm⟩ := hX0
  have hx := X.1.1
  have hb := X.1.2.1
  intro H locs ls hM hl
  refine lv_aload_n (pc := 0) hx hb dX10_chance_0 rfl (lv_at hl 0 rfl) ?_
  obtain ⟨q1, e2, h⟩ := ob h
  refine bz_getQ (pc := 1) X hM fl_RX10_10 e2 dX10_chance_1 ?_
  refine lv_iload_n (pc := 4) hx hb dX10_chance_4 rfl (lv_at hl 1 rfl) ?_
  obtain ⟨r4, e3, h⟩ := ob h
  obtain ⟨fs5, hb6⟩ := (rX6_countingAt e3)
  refine bz_callV1 (pc := 5) (As := [.int a1]) (rest := []) X hM hl.1 k_RX10_239 (ctX6_countingAt l e3) rfl hb6 rfl rfl ⟨(Nat.le_of_ble_eq_true rfl), (Nat.le_of_ble_eq_true rfl)⟩ (Nat.le_of_ble_eq_true rfl) ⟨(Nat.le_of_ble_eq_true rfl), (Nat.le_of_ble_eq_true rfl)⟩ dX10_chance_5 (fun H locs hM => ?_)
  refine bz_astoreO (pc := 8) (lv' := [(4, rO P r4), (0, .ref (pB P + a0)), (1, .int a1), (2, .int a2), (3, .int a3)]) hx hb dX10_chance_8 hl (by decide) rfl (fun ls hl => ?_)
  refine bz_aloadO (pc := 10) hx hb dX10_chance_10 (lv_at hl 0 rfl) ?_
  refine bz_ifnullO (pc := 12) (tgt := 29) hx hb dX10_chance_12 (by decide) (fun hc => ?_) (fun q7 hc => ?_)
  · subst hc
    have h := om_n rfl h
    have hl : lv_has ls 5 [(4, .null), (0, .ref (pB P + a0)), (1, .int a1), (2, .int a2), (3, .int a3)] := hl
    exact wjX10_chance_29 hX _ _ h H locs ls hM (lv_sub hl [1] rfl)
  · subst hc
    have h := om_s rfl h
    have hl : lv_has ls 5 [(4, .ref (pB P + q7)), (0, .ref (pB P + a0)), (1, .int a1), (2, .int a2), (3, .int a3)] := hl
    refine lv_iload_n (pc := 15) hx hb dX10_chance_15 rfl (lv_at hl 3 rfl) ?_
    obtain ⟨v9, e8, h⟩ := ob h
    refine bz_callS1 (pc := 16) (As := [.int a2]) (rest := []) X hM hl.1 k_RX10_260 (ctX10_isSlides l e8) rfl rfl ⟨(Nat.le_of_ble_eq_true rfl), (Nat.le_of_ble_eq_true rfl)⟩ (Nat.le_of_ble_eq_true rfl) ⟨(Nat.le_of_ble_eq_true rfl), (Nat.le_of_ble_eq_true rfl)⟩ dX10_chance_16 (fun H locs hM => ?_)
    refine lv_if_eq (pc := 19) (tgt := 29) hx hb dX10_chance_19 (by decide) (fun hc => ?_) (fun hc => ?_)
    · have h := if_t hc h
      exact wjX10_chance_29 hX _ _ h H locs ls hM (lv_sub hl [1] rfl)
    · have h := if_f hc h
      refine lv_iload_n (pc := 22) hx hb dX10_chance_22 rfl (lv_at hl 4 rfl) ?_
      obtain ⟨v11, e10, h⟩ := ob h
      refine bz_callS1 (pc := 23) (As := [.int a3]) (rest := []) X hM hl.1 k_RX10_263 (ctX10_isPart l e10) rfl rfl ⟨(Nat.le_of_ble_eq_true rfl), (Nat.le_of_ble_eq_true rfl)⟩ (Nat.le_of_ble_eq_true rfl) ⟨(Nat.le_of_ble_eq_true rfl), (Nat.le_of_ble_eq_true rfl)⟩ dX10_chance_23 (fun H locs hM => ?_)
      refine lv_if_ne (pc := 26) (tgt := 35) hx hb dX10_chance_26 (by decide) (fun hc => ?_) (fun hc => ?_)
      · have h := if_f hc h
        refine lv_aload_n (pc := 35) hx hb dX10_chance_35 rfl (lv_at hl 1 rfl) ?_
        obtain ⟨q12, e13, h⟩ := ob h
        refine bz_getQ (pc := 36) X hM fl_RX10_42 e13 dX10_chance_36 ?_
        refine lv_aload_n (pc := 39) hx hb dX10_chance_39 rfl (lv_at hl 1 rfl) ?_
        obtain ⟨q14, e15, h⟩ := ob h
        refine bz_getQ (pc := 40) X hM fl_RX10_10 e15 dX10_chance_40 ?_
        refine lv_aload (pc := 43) hx hb dX10_chance_43 (lv_at hl 0 rfl) ?_
        obtain ⟨v16, e17, h⟩ := ob h
        refine bz_getI (pc := 45) X hM fl_RX10_250 e17 dX10_chance_45 ?_
        obtain ⟨M19, e18, h⟩ := ob h
        obtain ⟨fs20, hb21⟩ := (rX1_hear e18)
        refine bz_callV0 (pc := 48) (As := [.ref (pB P + q14), .int v16]) (rest := []) X hM hl.1 k_RX10_217 (ctX1_hear l e18) rfl hb21 rfl rfl ⟨(Nat.le_of_ble_eq_true rfl), (Nat.le_of_ble_eq_true rfl)⟩ (Nat.le_of_ble_eq_true rfl) ⟨(Nat.le_of_ble_eq_true rfl), (Nat.le_of_ble_eq_true rfl)⟩ dX10_chance_48 (fun H locs hM => ?_)
        refine lv_aload_n (pc := 51) hx hb dX10_chance_51 rfl (lv_at hl 1 rfl) ?_
        obtain ⟨q22, e23, h⟩ := ob h
        refine bz_getQ (pc := 52) X hM fl_RX10_56 e23 dX10_chance_52 ?_
        refine lv_aload_n (pc := 55) hx hb dX10_chance_55 rfl (lv_at hl 1 rfl) ?_
        obtain ⟨q24, e25, h⟩ := ob h
        refine bz_getQ (pc := 56) X hM fl_RX10_42 e25 dX10_chance_56 ?_
        refine lv_aload (pc := 59) hx hb dX10_chance_59 (lv_at hl 0 rfl) ?_
        refine lv_aload (pc := 61) hx hb dX10_chance_61 (lv_at hl 0 rfl) ?_
        obtain ⟨v26, e27, h⟩ := ob h
        refine bz_getI (pc := 63) X hM fl_RX10_246 e27 dX10_chance_63 ?_
        refine lv_iload_n (pc := 66) hx hb dX10_chance_66 rfl (lv_at hl 3 rfl) ?_
        obtain ⟨M29, e28, h⟩ := ob h
        obtain ⟨fs30, hb31⟩ := (rX5_take e28)
        refine bz_callV0 (pc := 67) (As := [.ref (pB P + q24), .ref (pB P + q7), .int v26, .int a2]) (rest := []) X hM hl.1 k_RX10_266 (ctX5_take l e28) rfl hb31 rfl rfl ⟨(Nat.le_of_ble_eq_true rfl), (Nat.le_of_ble_eq_true rfl)⟩ (Nat.le_of_ble_eq_true rfl) ⟨(Nat.le_of_ble_eq_true rfl), (Nat.le_of_ble_eq_true rfl)⟩ dX10_chance_67 (fun H locs hM => ?_)
        refine lv_aload_n (pc := 70) hx hb dX10_chance_70 rfl (lv_at hl 1 rfl) ?_
        obtain ⟨q32, e33, h⟩ := ob h
        refine bz_getQ (pc := 71) X hM fl_RX10_56 e33 dX10_chance_71 ?_
        obtain ⟨v35, e34, h⟩ := ob h
        obtain ⟨fs36, hb37⟩ := (rX5_noFewer e34)
        refine bz_callV1 (pc := 74) (As := []) (rest := []) X hM hl.1 k_RX10_270 (ctX5_noFewer l e34) rfl hb37 rfl rfl ⟨(Nat.le_of_ble_eq_true rfl), (Nat.le_of_ble_eq_true rfl)⟩ (Nat.le_of_ble_eq_true rfl) ⟨(Nat.le_of_ble_eq_true rfl), (Nat.le_of_ble_eq_true rfl)⟩ dX10_chance_74 (fun H locs hM => ?_)
        refine lv_i2l (pc := 77) (v := ((v35).toInt64)) hx hb dX10_chance_77 rfl ?_
        refine lv_iload_n (pc := 78) hx hb dX10_chance_78 rfl (lv_at hl 3 rfl) ?_
        refine lv_i2l (pc := 79) (v := ((a2).toInt64)) hx hb dX10_chance_79 rfl ?_
        refine lv_iload_n (pc := 80) hx hb dX10_chance_80 rfl (lv_at hl 4 rfl) ?_
        obtain ⟨v39, e38, h⟩ := ob h
        refine bz_callS1 (pc := 81) (As := [.long ((v35).toInt64), .long ((a2).toInt64), .int a3]) (rest := []) X hM hl.1 k_RX10_273 (ctX10_inLowestTerms l e38) rfl rfl ⟨(Nat.le_of_ble_eq_true rfl), (Nat.le_of_ble_eq_true rfl)⟩ (Nat.le_of_ble_eq_true rfl) ⟨(Nat.le_of_ble_eq_true rfl), (Nat.le_of_ble_eq_true rfl)⟩ dX10_chance_81 (fun H locs hM => ?_)
        refine lv_l2i (pc := 84) (v := ((v39).toInt32)) hx hb dX10_chance_84 rfl ?_
        obtain ⟨rfl, rfl⟩ := so2 h
        exact bz_iret (pc := 85) X hM hr hlk dX10_chance_85 (Nat.le_of_ble_eq_true rfl) (Nat.le_of_ble_eq_true rfl)
      · have h := if_t hc h
        exact wjX10_chance_29 hX _ _ h H locs ls hM (lv_sub hl [1] rfl)
theorem rX10_chance {N : Nat} {M : Mm} {a0 : Nat} {a1 : Int32} {a2 : Int32} {a3 : Int32} {r9 : Int32 × Mm} (h : fX10_chance N M a0 a1 a2 a3 = some r9) : ∃ fs, M[a0]? = some (.inr (10, fs)) := by
  unfold fX10_chance at h
  obtain ⟨_, e1, _⟩ := ob h
  exact gC_spec e1
theorem ctX10_chance (l : Launch) {P : PT} {N : Nat} {M : Mm} {a0 : Nat} {a1 : Int32} {a2 : Int32} {a3 : Int32} {r9 : Int32} {M9 : Mm} (h : fX10_chance N M a0 a1 a2 a3 = some (r9, M9)) : Ct l yX10_chance cX10_chance 5 (some .int) 6 0 P [.ref (pB P + a0), .int a1, .int a2, .int a3] M (some (.int r9)) M9 :=
  Ct.mk (by decide +kernel) (Nat.le_of_ble_eq_true rfl) (fun p e s m args below meth c hX => wX10_chance hX M a0 a1 a2 a3 h)
set_option maxHeartbeats 4000000 in
set_option maxRecDepth 100000 in
theorem wX11_isAsked {p : Program} {l : Launch} {e : Env} {s : State} {m : MethodId} {args : Array Value} {below : List Frame} {meth : Method} {c : Code} {P : PT}  {r9 : Int32} (hX : Cy p s m args c meth cX11_isAsked 3 RX11 "isAsked" (some .boolean) P)  (M : Mm) (a0 : Nat) (a1 : Int32) (a2 : Int32) (h : fX11_isAsked M a0 a1 a2 = some r9) : Wq p l e s m args below meth c 2 0 (some (.int r9)) M 3 P 0 0 [(0, .ref (pB P + a0)), (1, .int a1), (2, .int a2)] [] M := by
  unfold fX11_isAsked at h
  obtain ⟨_, _, h⟩ := ob h
  have hX0 := hX
  obtain ⟨X, hr, hlk, hnm⟩ := hX0
  have hx := X.1.1
  have hb := X.1.2.1
  intro H locs ls hM hl
  refine lv_aload_n (pc := 0) hx hb dX11_isAsked_0 rfl (lv_at hl 0 rfl) ?_
  refine lv_iload_n (pc := 1) hx hb dX11_isAsked_1 rfl (lv_at hl 1 rfl) ?_
  obtain ⟨v2, e1, h⟩ := ob h
  obtain ⟨fs3, hb4⟩ := (rX11_isCounting e1)
  refine bz_callV1 (pc := 2) (As := [.int a1]) (rest := []) X hM hl.1 k_RX11_219 (ctX11_isCounting l e1) rfl hb4 rfl rfl ⟨(Nat.le_of_ble_eq_true rfl), (Nat.le_of_ble_eq_true rfl)⟩ (Nat.le_of_ble_eq_true rfl) ⟨(Nat.le_of_ble_eq_true rfl), (Nat.le_of_ble_eq_true rfl)⟩ dX11_isAsked_2 (fun H locs hM => ?_)
  refine lv_if_eq (pc := 5) (tgt := 24) hx hb dX11_isAsked_5 (by decide) (fun hc => ?_) (fun hc => ?_)
  · have h := if_t hc h
    refine lv_iconst (pc := 24) (v := (0 : Int32)) hx hb dX11_isAsked_24 (by decide) ?_
    obtain rfl := so1 h
    exact bz_zret (pc := 25) X hM hr hlk (by decide) dX11_isAsked_25 (Nat.le_of_ble_eq_true rfl) (Nat.le_of_ble_eq_true rfl)
  · have h := if_f hc h
    refine lv_iload_n (pc := 8) hx hb dX11_isAsked_8 rfl (lv_at hl 2 rfl) ?_
    refine lv_i2l (pc := 9) (v := ((a2).toInt64)) hx hb dX11_isAsked_9 rfl ?_
    refine lv_lconst (pc := 10) (v := (1 : Int64)) hx hb dX11_isAsked_10 (by decide) ?_
    refine lv_ldc2 (pc := 11) (v := (40 : Int64)) hx hb X.1.2.2.2.1 (X.1.2.2.2.2 _ g_1515) dX11_isAsked_11 ?_
    obtain ⟨v6, e5, h⟩ := ob h
    refine bz_callS1 (pc := 14) (As := [.long ((a2).toInt64), .long (1 : Int64), .long (40 : Int64)]) (rest := []) X hM hl.1 k_RX11_57 (ctX11_in l e5) rfl rfl ⟨(Nat.le_of_ble_eq_true rfl), (Nat.le_of_ble_eq_true rfl)⟩ (Nat.le_of_ble_eq_true rfl) ⟨(Nat.le_of_ble_eq_true rfl), (Nat.le_of_ble_eq_true rfl)⟩ dX11_isAsked_14 (fun H locs hM => ?_)
    refine lv_if_eq (pc := 17) (tgt := 24) hx hb dX11_isAsked_17 (by decide) (fun hc => ?_) (fun hc => ?_)
    · have h := if_t hc h
      refine lv_iconst (pc := 24) (v := (0 : Int32)) hx hb dX11_isAsked_24 (by decide) ?_
      obtain rfl := so1 h
      exact bz_zret (pc := 25) X hM hr hlk (by decide) dX11_isAsked_25 (Nat.le_of_ble_eq_true rfl) (Nat.le_of_ble_eq_true rfl)
    · have h := if_f hc h
      refine lv_iconst (pc := 20) (v := (1 : Int32)) hx hb dX11_isAsked_20 (by decide) ?_
      refine lv_goto (pc := 21) (tgt := 25) hx hb dX11_isAsked_21 (by decide) ?_
      obtain rfl := so1 h
      exact bz_zret (pc := 25) X hM hr hlk (by decide) dX11_isAsked_25 (Nat.le_of_ble_eq_true rfl) (Nat.le_of_ble_eq_true rfl)
theorem rX11_isAsked {M : Mm} {a0 : Nat} {a1 : Int32} {a2 : Int32} {r9 : Int32} (h : fX11_isAsked M a0 a1 a2 = some r9) : ∃ fs, M[a0]? = some (.inr (11, fs)) := by
  unfold fX11_isAsked at h
  obtain ⟨_, e1, _⟩ := ob h
  exact gC_spec e1
theorem ctX11_isAsked (l : Launch) {P : PT} {M : Mm} {a0 : Nat} {a1 : Int32} {a2 : Int32} {r9 : Int32} (h : fX11_isAsked M a0 a1 a2 = some r9) : Ct l yX11_isAsked cX11_isAsked 3 (some .boolean) 2 0 P [.ref (pB P + a0), .int a1, .int a2] M (some (.int r9)) M :=
  Ct.mk (by decide +kernel) (Nat.le_of_ble_eq_true rfl) (fun p e s m args below meth c hX => wX11_isAsked hX M a0 a1 a2 h)
