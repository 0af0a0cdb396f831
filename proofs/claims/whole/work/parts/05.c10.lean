set_option maxHeartbeats 4000000 in
set_option maxRecDepth 100000 in
theorem wBX11_text_125 {p : Program} {l : Launch} {e : Env} {s : State} {m : MethodId} {args : Array Value} {below : List Frame} {meth : Method} {c : Code} {P : PT} {N : Nat} {K125 : Mm → Nat → Int32 → Int32 → Option (Int32 × Mm)}  {r9 : Int32} {M9 : Mm} (hX : Cy p s m args c meth cX11_text 5 RX11 "text" (some .int) P)  (hK125 : ∀ (M : Mm) (x0 : Nat) (x3 : Int32) (x4 : Int32), K125 M x0 x3 x4 = some (r9, M9) → Wq p l e s m args below meth c 103 0 (some (.int r9)) M9 5 P 0 125 [(0, .ref (pB P + x0)), (3, .int x3), (4, .int x4)] [] M) (M : Mm) (x0 : Nat) (x3 : Int32) (x4 : Int32)  (h : BX11_text_125 N K125 M x0 x3 x4 = some (r9, M9)) : Wq p l e s m args below meth c 103 0 (some (.int r9)) M9 5 P 0 125 [(0, .ref (pB P + x0)), (3, .int x3), (4, .int x4)] [] M := by
  unfold BX11_text_125 at h
  have hX0 := hX
  obtain ⟨X, hr, hlk, hnm⟩ := hX0
  have hx := X.1.1
  have hb := X.1.2.1
  intro H locs ls hM hl
  refine lv_iload (pc := 125) hx hb dX11_text_125 (lv_at hl 2 rfl) ?_
  refine lv_aload_n (pc := 127) hx hb dX11_text_127 rfl (lv_at hl 0 rfl) ?_
  obtain ⟨v1, e2, h⟩ := ob h
  refine bz_getI (pc := 128) X hM fl_RX11_164 e2 dX11_text_128 ?_
  refine lv_icmp_ge (pc := 131) (tgt := 158) hx hb dX11_text_131 (by decide) (fun hc => ?_) (fun hc => ?_)
  · have h := if_t hc h
    refine lv_iconst (pc := 158) (v := (1 : Int32)) hx hb dX11_text_158 (by decide) ?_
    obtain ⟨rfl, rfl⟩ := so2 h
    exact bz_iret (pc := 159) X hM hr hlk dX11_text_159 (Nat.le_of_ble_eq_true rfl) (Nat.le_of_ble_eq_true rfl)
  · have h := if_f hc h
    refine lv_aload_n (pc := 134) hx hb dX11_text_134 rfl (lv_at hl 0 rfl) ?_
    obtain ⟨q3, e4, h⟩ := ob h
    refine bz_getQ (pc := 135) X hM fl_RX11_9 e4 dX11_text_135 ?_
    refine lv_iload_n (pc := 138) hx hb dX11_text_138 rfl (lv_at hl 1 rfl) ?_
    refine lv_iconst (pc := 139) (v := (2 : Int32)) hx hb dX11_text_139 (by decide) ?_
    refine lv_iadd (pc := 140) hx hb dX11_text_140 ?_
    refine lv_iload (pc := 141) hx hb dX11_text_141 (lv_at hl 2 rfl) ?_
    refine lv_iadd (pc := 143) hx hb dX11_text_143 ?_
    refine lv_aload_n (pc := 144) hx hb dX11_text_144 rfl (lv_at hl 0 rfl) ?_
    obtain ⟨q5, e6, h⟩ := ob h
    refine bz_getQ (pc := 145) X hM fl_RX11_35 e6 dX11_text_145 ?_
    refine lv_iload (pc := 148) hx hb dX11_text_148 (lv_at hl 2 rfl) ?_
    obtain ⟨v7, e8, h⟩ := ob h
    refine bz_iald (pc := 150) X hM e8 dX11_text_150 ?_
    obtain ⟨M9, e10, h⟩ := ob h
    refine bz_iast (pc := 151) X hM e10 dX11_text_151 (fun H locs hM => ?_)
    refine lv_iinc (pc := 152) (v := (x4 + (1 : Int32))) (lv' := [(4, .int (x4 + (1 : Int32))), (0, .ref (pB P + x0)), (3, .int x3)]) hx hb dX11_text_152 hl (k := 2) rfl rfl (by decide) rfl (fun ls hl => ?_)
    refine lv_goto (pc := 155) (tgt := 125) hx hb dX11_text_155 (by decide) ?_
    exact hK125 _ _ _ _ h H locs ls hM (lv_sub hl [1, 2, 0] rfl)
set_option maxHeartbeats 4000000 in
set_option maxRecDepth 100000 in
theorem wLX11_text_125 {p : Program} {l : Launch} {e : Env} {s : State} {m : MethodId} {args : Array Value} {below : List Frame} {meth : Method} {c : Code} {P : PT} {N : Nat}  {r9 : Int32} {M9 : Mm} (hX : Cy p s m args c meth cX11_text 5 RX11 "text" (some .int) P)   : ∀ (n : Nat) (M : Mm) (x0 : Nat) (x3 : Int32) (x4 : Int32) , LX11_text_125 N n M x0 x3 x4 = some (r9, M9) → Wq p l e s m args below meth c 103 0 (some (.int r9)) M9 5 P 0 125 [(0, .ref (pB P + x0)), (3, .int x3), (4, .int x4)] [] M := by
  intro n
  induction n with
  | zero => intro M x0 x3 x4 h; cases h
  | succ n ih => intro M x0 x3 x4 h; exact wBX11_text_125 hX ih M x0 x3 x4 h
set_option maxHeartbeats 4000000 in
set_option maxRecDepth 100000 in
theorem wjX11_text_73 {p : Program} {l : Launch} {e : Env} {s : State} {m : MethodId} {args : Array Value} {below : List Frame} {meth : Method} {c : Code} {P : PT} {N : Nat}  {r9 : Int32} {M9 : Mm} (hX : Cy p s m args c meth cX11_text 5 RX11 "text" (some .int) P)   (M : Mm) (x0 : Nat) (x1 : Int32) (s0 : Int32) (h : jX11_text_73 N M x0 x1 s0 = some (r9, M9)) : Wq p l e s m args below meth c 103 0 (some (.int r9)) M9 5 P 0 73 [(0, .ref (pB P + x0)), (1, .int x1)] [.int s0] M := by
  unfold jX11_text_73 at h
  have hX0 := hX
  obtain ⟨X, hr, hlk, hnm⟩ := hX0
  have hx := X.1.1
  have hb := X.1.2.1
  intro H locs ls hM hl
  refine lv_istore_n (pc := 73) (lv' := [(2, .int s0), (0, .ref (pB P + x0)), (1, .int x1)]) hx hb dX11_text_73 rfl hl (by decide) rfl (fun ls hl => ?_)
  refine lv_aload_n (pc := 74) hx hb dX11_text_74 rfl (lv_at hl 1 rfl) ?_
  obtain ⟨q1, e2, h⟩ := ob h
  refine bz_getQ (pc := 75) X hM fl_RX11_9 e2 dX11_text_75 ?_
  refine lv_bipush (pc := 78) (v := (6 : Int32)) hx hb dX11_text_78 (by decide) ?_
  refine lv_iconst (pc := 80) (v := (0 : Int32)) hx hb dX11_text_80 (by decide) ?_
  obtain ⟨M3, e4, h⟩ := ob h
  refine bz_iast (pc := 81) X hM e4 dX11_text_81 (fun H locs hM => ?_)
  refine lv_iload_n (pc := 82) hx hb dX11_text_82 rfl (lv_at hl 0 rfl) ?_
  refine lv_if_ne (pc := 83) (tgt := 94) hx hb dX11_text_83 (by decide) (fun hc => ?_) (fun hc => ?_)
  · have h := if_f hc h
    refine lv_sipush (pc := 94) (v := (482 : Int32)) hx hb dX11_text_94 (by decide) ?_
    refine lv_bipush (pc := 97) (v := (52 : Int32)) hx hb dX11_text_97 (by decide) ?_
    refine lv_iload_n (pc := 99) hx hb dX11_text_99 rfl (lv_at hl 2 rfl) ?_
    refine lv_imul (pc := 100) hx hb dX11_text_100 ?_
    refine lv_iadd (pc := 101) hx hb dX11_text_101 ?_
    refine lv_istore_n (pc := 102) (lv' := [(3, .int ((482 : Int32) + ((52 : Int32) * x1))), (2, .int s0), (0, .ref (pB P + x0)), (1, .int x1)]) hx hb dX11_text_102 rfl hl (by decide) rfl (fun ls hl => ?_)
    refine lv_aload_n (pc := 103) hx hb dX11_text_103 rfl (lv_at hl 2 rfl) ?_
    obtain ⟨q5, e6, h⟩ := ob h
    refine bz_getQ (pc := 104) X hM fl_RX11_9 e6 dX11_text_104 ?_
    refine lv_iload_n (pc := 107) hx hb dX11_text_107 rfl (lv_at hl 0 rfl) ?_
    refine lv_iconst (pc := 108) (v := (1 : Int32)) hx hb dX11_text_108 (by decide) ?_
    obtain ⟨M7, e8, h⟩ := ob h
    refine bz_iast (pc := 109) X hM e8 dX11_text_109 (fun H locs hM => ?_)
    refine lv_aload_n (pc := 110) hx hb dX11_text_110 rfl (lv_at hl 2 rfl) ?_
    obtain ⟨q9, e10, h⟩ := ob h
    refine bz_getQ (pc := 111) X hM fl_RX11_9 e10 dX11_text_111 ?_
    refine lv_iload_n (pc := 114) hx hb dX11_text_114 rfl (lv_at hl 0 rfl) ?_
    refine lv_iconst (pc := 115) (v := (1 : Int32)) hx hb dX11_text_115 (by decide) ?_
    refine lv_iadd (pc := 116) hx hb dX11_text_116 ?_
    refine lv_aload_n (pc := 117) hx hb dX11_text_117 rfl (lv_at hl 2 rfl) ?_
    obtain ⟨v11, e12, h⟩ := ob h
    refine bz_getI (pc := 118) X hM fl_RX11_164 e12 dX11_text_118 ?_
    obtain ⟨M13, e14, h⟩ := ob h
    refine bz_iast (pc := 121) X hM e14 dX11_text_121 (fun H locs hM => ?_)
    refine lv_iconst (pc := 122) (v := (0 : Int32)) hx hb dX11_text_122 (by decide) ?_
    refine lv_istore (pc := 123) (lv' := [(4, .int (0 : Int32)), (3, .int ((482 : Int32) + ((52 : Int32) * x1))), (2, .int s0), (0, .ref (pB P + x0)), (1, .int x1)]) hx hb dX11_text_123 hl (by decide) rfl (fun ls hl => ?_)
    exact wLX11_text_125 hX _ _ _ _ _ h H locs ls hM (lv_sub hl [3, 1, 0] rfl)
  · have h := if_t hc h
    refine lv_bipush (pc := 86) (v := (-10 : Int32)) hx hb dX11_text_86 (by decide) ?_
    refine lv_aload_n (pc := 88) hx hb dX11_text_88 rfl (lv_at hl 1 rfl) ?_
    obtain ⟨v15, e16, h⟩ := ob h
    refine bz_getI (pc := 89) X hM fl_RX11_156 e16 dX11_text_89 ?_
    refine lv_isub (pc := 92) hx hb dX11_text_92 ?_
    obtain ⟨rfl, rfl⟩ := so2 h
    exact bz_iret (pc := 93) X hM hr hlk dX11_text_93 (Nat.le_of_ble_eq_true rfl) (Nat.le_of_ble_eq_true rfl)
set_option maxHeartbeats 4000000 in
set_option maxRecDepth 100000 in
theorem wjX11_text_72 {p : Program} {l : Launch} {e : Env} {s : State} {m : MethodId} {args : Array Value} {below : List Frame} {meth : Method} {c : Code} {P : PT} {N : Nat}  {r9 : Int32} {M9 : Mm} (hX : Cy p s m args c meth cX11_text 5 RX11 "text" (some .int) P)   (M : Mm) (x0 : Nat) (x1 : Int32)  (h : jX11_text_72 N M x0 x1 = some (r9, M9)) : Wq p l e s m args below meth c 103 0 (some (.int r9)) M9 5 P 0 72 [(0, .ref (pB P + x0)), (1, .int x1)] [] M := by
  unfold jX11_text_72 at h
  have hX0 := hX
  obtain ⟨X, hr, hlk, hnm⟩ := hX0
  have hx := X.1.1
  have hb := X.1.2.1
  intro H locs ls hM hl
  refine lv_iconst (pc := 72) (v := (0 : Int32)) hx hb dX11_text_72 (by decide) ?_
  exact wjX11_text_73 hX _ _ _ _ h H locs ls hM (lv_sub hl [0, 1] rfl)
set_option maxHeartbeats 4000000 in
set_option maxRecDepth 100000 in
theorem wX11_text {p : Program} {l : Launch} {e : Env} {s : State} {m : MethodId} {args : Array Value} {below : List Frame} {meth : Method} {c : Code} {P : PT} {N : Nat}  {r9 : Int32} {M9 : Mm} (hX : Cy p s m args c meth cX11_text 5 RX11 "text" (some .int) P)  (M : Mm) (a0 : Nat) (a1 : Int32) (h : fX11_text N M a0 a1 = some (r9, M9)) : Wq p l e s m args below meth c 103 0 (some (.int r9)) M9 5 P 0 0 [(0, .ref (pB P + a0)), (1, .int a1)] [] M := by
  unfold fX11_text at h
  obtain ⟨_, _, h⟩ := ob h
  have hX0 := hX
  obtain ⟨X, hr, hlk, hnm⟩ := hX0
  have hx := X.1.1
  have hb := X.1.2.1
  intro H locs ls hM hl
  refine lv_iload_n (pc := 0) hx hb dX11_text_0 rfl (lv_at hl 1 rfl) ?_
  refine lv_i2l (pc := 1) (v := ((a1).toInt64)) hx hb dX11_text_1 rfl ?_
  refine lv_lconst (pc := 2) (v := (0 : Int64)) hx hb dX11_text_2 (by decide) ?_
  refine lv_ldc2 (pc := 3) (v := (8 : Int64)) hx hb X.1.2.2.2.1 (X.1.2.2.2.2 _ g_1397) dX11_text_3 ?_
  obtain ⟨v2, e1, h⟩ := ob h
  refine bz_callS1 (pc := 6) (As := [.long ((a1).toInt64), .long (0 : Int64), .long (8 : Int64)]) (rest := []) X hM hl.1 k_RX11_57 (ctX11_in l e1) rfl rfl ⟨(Nat.le_of_ble_eq_true rfl), (Nat.le_of_ble_eq_true rfl)⟩ (Nat.le_of_ble_eq_true rfl) ⟨(Nat.le_of_ble_eq_true rfl), (Nat.le_of_ble_eq_true rfl)⟩ dX11_text_6 (fun H locs hM => ?_)
  refine lv_if_ne (pc := 9) (tgt := 18) hx hb dX11_text_9 (by decide) (fun hc => ?_) (fun hc => ?_)
  · have h := if_f hc h
    refine lv_aload_n (pc := 18) hx hb dX11_text_18 rfl (lv_at hl 0 rfl) ?_
    refine lv_iconst (pc := 19) (v := (0 : Int32)) hx hb dX11_text_19 (by decide) ?_
    obtain ⟨M3, e4, h⟩ := ob h
    refine bz_putI (pc := 20) X hM fp_RX11_164 (Or.inl rfl) e4 dX11_text_20 (fun H locs hM => ?_)
    refine lv_aload_n (pc := 23) hx hb dX11_text_23 rfl (lv_at hl 0 rfl) ?_
    refine lv_iconst (pc := 24) (v := (0 : Int32)) hx hb dX11_text_24 (by decide) ?_
    obtain ⟨M5, e6, h⟩ := ob h
    refine bz_putI (pc := 25) X hM fp_RX11_156 (Or.inl rfl) e6 dX11_text_25 (fun H locs hM => ?_)
    refine lv_aload_n (pc := 28) hx hb dX11_text_28 rfl (lv_at hl 0 rfl) ?_
    refine lv_iconst (pc := 29) (v := (0 : Int32)) hx hb dX11_text_29 (by decide) ?_
    obtain ⟨M7, e8, h⟩ := ob h
    refine bz_putI (pc := 30) X hM fp_RX11_199 (Or.inl rfl) e8 dX11_text_30 (fun H locs hM => ?_)
    refine lv_aload_n (pc := 33) hx hb dX11_text_33 rfl (lv_at hl 0 rfl) ?_
    refine lv_iload_n (pc := 34) hx hb dX11_text_34 rfl (lv_at hl 1 rfl) ?_
    obtain ⟨M9, e10, h⟩ := ob h
    refine bz_putI (pc := 35) X hM fp_RX11_193 (Or.inl rfl) e10 dX11_text_35 (fun H locs hM => ?_)
    refine lv_aload_n (pc := 38) hx hb dX11_text_38 rfl (lv_at hl 0 rfl) ?_
    refine lv_iconst (pc := 39) (v := (0 : Int32)) hx hb dX11_text_39 (by decide) ?_
    obtain ⟨M11, e12, h⟩ := ob h
    refine bz_putZ (pc := 40) X hM fp_RX11_152 (Or.inl rfl) (by decide) e12 dX11_text_40 (fun H locs hM => ?_)
    refine lv_aload_n (pc := 43) hx hb dX11_text_43 rfl (lv_at hl 0 rfl) ?_
    obtain ⟨M14, e13, h⟩ := ob h
    obtain ⟨fs15, hb16⟩ := (rX11_either e13)
    refine bz_callV0 (pc := 44) (As := []) (rest := []) X hM hl.1 k_RX11_202 (ctX11_either l e13) rfl hb16 rfl rfl ⟨(Nat.le_of_ble_eq_true rfl), (Nat.le_of_ble_eq_true rfl)⟩ (Nat.le_of_ble_eq_true rfl) ⟨(Nat.le_of_ble_eq_true rfl), (Nat.le_of_ble_eq_true rfl)⟩ dX11_text_44 (fun H locs hM => ?_)
    refine lv_aload_n (pc := 47) hx hb dX11_text_47 rfl (lv_at hl 0 rfl) ?_
    obtain ⟨v17, e18, h⟩ := ob h
    refine bz_getI (pc := 48) X hM fl_RX11_152 e18 dX11_text_48 ?_
    refine lv_if_ne (pc := 51) (tgt := 72) hx hb dX11_text_51 (by decide) (fun hc => ?_) (fun hc => ?_)
    · have h := if_f hc h
      exact wjX11_text_72 hX _ _ _ h H locs ls hM (lv_sub hl [0, 1] rfl)
    · have h := if_t hc h
      refine lv_aload_n (pc := 54) hx hb dX11_text_54 rfl (lv_at hl 0 rfl) ?_
      obtain ⟨v19, e20, h⟩ := ob h
      refine bz_getI (pc := 55) X hM fl_RX11_156 e20 dX11_text_55 ?_
      refine lv_aload_n (pc := 58) hx hb dX11_text_58 rfl (lv_at hl 0 rfl) ?_
      obtain ⟨q21, e22, h⟩ := ob h
      refine bz_getQ (pc := 59) X hM fl_RX11_9 e22 dX11_text_59 ?_
      refine lv_bipush (pc := 62) (v := (6 : Int32)) hx hb dX11_text_62 (by decide) ?_
      obtain ⟨v23, e24, h⟩ := ob h
      refine bz_iald (pc := 64) X hM e24 dX11_text_64 ?_
      refine lv_icmp_ne (pc := 65) (tgt := 72) hx hb dX11_text_65 (by decide) (fun hc => ?_) (fun hc => ?_)
      · have h := if_f hc h
        exact wjX11_text_72 hX _ _ _ h H locs ls hM (lv_sub hl [0, 1] rfl)
      · have h := if_t hc h
        refine lv_iconst (pc := 68) (v := (1 : Int32)) hx hb dX11_text_68 (by decide) ?_
        refine lv_goto (pc := 69) (tgt := 73) hx hb dX11_text_69 (by decide) ?_
        exact wjX11_text_73 hX _ _ _ _ h H locs ls hM (lv_sub hl [0, 1] rfl)
  · have h := if_t hc h
    refine lv_aload_n (pc := 12) hx hb dX11_text_12 rfl (lv_at hl 0 rfl) ?_
    refine lv_iconst (pc := 13) (v := (1 : Int32)) hx hb dX11_text_13 (by decide) ?_
    obtain ⟨v26, M27, e25, h⟩ := ob2 h
    obtain ⟨fs28, hb29⟩ := (rX11_error e25)
    refine bz_callV1 (pc := 14) (As := [.int (1 : Int32)]) (rest := []) X hM hl.1 k_RX11_73 (ctX11_error l e25) rfl hb29 rfl rfl ⟨(Nat.le_of_ble_eq_true rfl), (Nat.le_of_ble_eq_true rfl)⟩ (Nat.le_of_ble_eq_true rfl) ⟨(Nat.le_of_ble_eq_true rfl), (Nat.le_of_ble_eq_true rfl)⟩ dX11_text_14 (fun H locs hM => ?_)
    obtain ⟨rfl, rfl⟩ := so2 h
    exact bz_iret (pc := 17) X hM hr hlk dX11_text_17 (Nat.le_of_ble_eq_true rfl) (Nat.le_of_ble_eq_true rfl)
theorem rX11_text {N : Nat} {M : Mm} {a0 : Nat} {a1 : Int32} {r9 : Int32 × Mm} (h : fX11_text N M a0 a1 = some r9) : ∃ fs, M[a0]? = some (.inr (11, fs)) := by
  unfold fX11_text at h
  obtain ⟨_, e1, _⟩ := ob h
  exact gC_spec e1
theorem ctX11_text (l : Launch) {P : PT} {N : Nat} {M : Mm} {a0 : Nat} {a1 : Int32} {r9 : Int32} {M9 : Mm} (h : fX11_text N M a0 a1 = some (r9, M9)) : Ct l yX11_text cX11_text 5 (some .int) 103 0 P [.ref (pB P + a0), .int a1] M (some (.int r9)) M9 :=
  Ct.mk (by decide +kernel) (Nat.le_of_ble_eq_true rfl) (fun p e s m args below meth c hX => wX11_text hX M a0 a1 h)
set_option maxHeartbeats 4000000 in
set_option maxRecDepth 100000 in
theorem wX10_isLaw {p : Program} {l : Launch} {e : Env} {s : State} {m : MethodId} {args : Array Value} {below : List Frame} {meth : Method} {c : Code} {P : PT}  {r9 : Int32} (hX : Cy p s m args c meth cX10_isLaw 1 RX10 "isLaw" (some .boolean) P)  (M : Mm) (a0 : Int32) (h : fX10_isLaw M a0 = some r9) : Wq p l e s m args below meth c 1 0 (some (.int r9)) M 1 P 0 0 [(0, .int a0)] [] M := by
  unfold fX10_isLaw at h
  have hX0 := hX
  obtain ⟨X, hr, hlk, hnm⟩ := hX0
  have hx := X.1.1
  have hb := X.1.2.1
  intro H locs ls hM hl
  refine lv_iload_n (pc := 0) hx hb dX10_isLaw_0 rfl (lv_at hl 0 rfl) ?_
  refine lv_iconst (pc := 1) (v := (0 : Int32)) hx hb dX10_isLaw_1 (by decide) ?_
  refine lv_iconst (pc := 2) (v := (5 : Int32)) hx hb dX10_isLaw_2 (by decide) ?_
  obtain ⟨v2, e1, h⟩ := ob h
  refine bz_callS1 (pc := 3) (As := [.int a0, .int (0 : Int32), .int (5 : Int32)]) (rest := []) X hM hl.1 k_RX10_74 (ctX10_within l e1) rfl rfl ⟨(Nat.le_of_ble_eq_true rfl), (Nat.le_of_ble_eq_true rfl)⟩ (Nat.le_of_ble_eq_true rfl) ⟨(Nat.le_of_ble_eq_true rfl), (Nat.le_of_ble_eq_true rfl)⟩ dX10_isLaw_3 (fun H locs hM => ?_)
  obtain ⟨v3, e4, h⟩ := ob h
  obtain rfl := so1 h
  exact bz_zretz (pc := 6) X hM hr hlk e4 dX10_isLaw_6 (Nat.le_of_ble_eq_true rfl) (Nat.le_of_ble_eq_true rfl)
theorem ctX10_isLaw (l : Launch) {P : PT} {M : Mm} {a0 : Int32} {r9 : Int32} (h : fX10_isLaw M a0 = some r9) : Ct l yX10_isLaw cX10_isLaw 1 (some .boolean) 1 0 P [.int a0] M (some (.int r9)) M :=
  Ct.mk (by decide +kernel) (Nat.le_of_ble_eq_true rfl) (fun p e s m args below meth c hX => wX10_isLaw hX M a0 h)
set_option maxHeartbeats 4000000 in
set_option maxRecDepth 100000 in
theorem wX6_lawGives {p : Program} {l : Launch} {e : Env} {s : State} {m : MethodId} {args : Array Value} {below : List Frame} {meth : Method} {c : Code} {P : PT} {N : Nat}  {r9 : Int32} {M9 : Mm} (hX : Cy p s m args c meth cX6_lawGives 5 RX6 "lawGives" (some .int) P)  (M : Mm) (a0 : Nat) (a1 : Int32) (a2 : Int32) (a3 : Int32) (h : fX6_lawGives N M a0 a1 a2 a3 = some (r9, M9)) : Wq p l e s m args below meth c 3 0 (some (.int r9)) M9 5 P 0 0 [(0, .ref (pB P + a0)), (1, .int a1), (2, .int a2), (3, .int a3)] [] M := by
  unfold fX6_lawGives at h
  obtain ⟨_, _, h⟩ := ob h
  have hX0 := hX
  obtain ⟨X, hr, hlk, hnm⟩ := hX0
  have hx := X.1.1
  have hb := X.1.2.1
  intro H locs ls hM hl
  refine lv_aload_n (pc := 0) hx hb dX6_lawGives_0 rfl (lv_at hl 0 rfl) ?_
  refine lv_iconst (pc := 1) (v := (3 : Int32)) hx hb dX6_lawGives_1 (by decide) ?_
  refine lv_iload_n (pc := 2) hx hb dX6_lawGives_2 rfl (lv_at hl 1 rfl) ?_
  refine lv_iadd (pc := 3) hx hb dX6_lawGives_3 ?_
  obtain ⟨r2, e1, h⟩ := ob h
  obtain ⟨fs3, hb4⟩ := (rX6_textOf e1)
  refine bz_callV1 (pc := 4) (As := [.int ((3 : Int32) + a1)]) (rest := []) X hM hl.1 k_RX6_98 (ctX6_textOf l e1) rfl hb4 rfl rfl ⟨(Nat.le_of_ble_eq_true rfl), (Nat.le_of_ble_eq_true rfl)⟩ (Nat.le_of_ble_eq_true rfl) ⟨(Nat.le_of_ble_eq_true rfl), (Nat.le_of_ble_eq_true rfl)⟩ dX6_lawGives_4 (fun H locs hM => ?_)
  refine bz_astoreO (pc := 7) (lv' := [(4, rO P r2), (0, .ref (pB P + a0)), (1, .int a1), (2, .int a2), (3, .int a3)]) hx hb dX6_lawGives_7 hl (by decide) rfl (fun ls hl => ?_)
  refine bz_aloadO (pc := 9) hx hb dX6_lawGives_9 (lv_at hl 0 rfl) ?_
  refine bz_ifnonnullO (pc := 11) (tgt := 16) hx hb dX6_lawGives_11 (by decide) (fun q5 hc => ?_) (fun hc => ?_)
  · subst hc
    have h := om_s rfl h
    have hl : lv_has ls 5 [(4, .ref (pB P + q5)), (0, .ref (pB P + a0)), (1, .int a1), (2, .int a2), (3, .int a3)] := hl
    refine lv_iconst (pc := 16) (v := (0 : Int32)) hx hb dX6_lawGives_16 (by decide) ?_
    refine lv_bipush (pc := 17) (v := (9 : Int32)) hx hb dX6_lawGives_17 (by decide) ?_
    refine lv_aload (pc := 19) hx hb dX6_lawGives_19 (lv_at hl 0 rfl) ?_
    refine lv_iload_n (pc := 21) hx hb dX6_lawGives_21 rfl (lv_at hl 3 rfl) ?_
    refine lv_iload_n (pc := 22) hx hb dX6_lawGives_22 rfl (lv_at hl 4 rfl) ?_
    refine lv_iconst (pc := 23) (v := (0 : Int32)) hx hb dX6_lawGives_23 (by decide) ?_
    refine lv_iconst (pc := 24) (v := (0 : Int32)) hx hb dX6_lawGives_24 (by decide) ?_
    obtain ⟨v7, M8, e6, h⟩ := ob2 h
    obtain ⟨fs9, hb10⟩ := (rX8_value e6)
    refine bz_callV1 (pc := 25) (As := [.int a2, .int a3, .int (0 : Int32), .int (0 : Int32)]) (rest := [.int (9 : Int32), .int (0 : Int32)]) X hM hl.1 k_RX6_102 (ctX8_value l e6) rfl hb10 rfl rfl ⟨(Nat.le_of_ble_eq_true rfl), (Nat.le_of_ble_eq_true rfl)⟩ (Nat.le_of_ble_eq_true rfl) ⟨(Nat.le_of_ble_eq_true rfl), (Nat.le_of_ble_eq_true rfl)⟩ dX6_lawGives_25 (fun H locs hM => ?_)
    obtain ⟨v12, e11, h⟩ := ob h
    refine bz_callS1 (pc := 28) (As := [.int (9 : Int32), .int v7]) (rest := [.int (0 : Int32)]) X hM hl.1 k_RX6_106 (ctJ9_min_7cf53 l e11) rfl rfl ⟨(Nat.le_of_ble_eq_true rfl), (Nat.le_of_ble_eq_true rfl)⟩ (Nat.le_of_ble_eq_true rfl) ⟨(Nat.le_of_ble_eq_true rfl), (Nat.le_of_ble_eq_true rfl)⟩ dX6_lawGives_28 (fun H locs hM => ?_)
    obtain ⟨v14, e13, h⟩ := ob h
    refine bz_callS1 (pc := 31) (As := [.int (0 : Int32), .int v12]) (rest := []) X hM hl.1 k_RX6_112 (ctJ9_max_7cf53 l e13) rfl rfl ⟨(Nat.le_of_ble_eq_true rfl), (Nat.le_of_ble_eq_true rfl)⟩ (Nat.le_of_ble_eq_true rfl) ⟨(Nat.le_of_ble_eq_true rfl), (Nat.le_of_ble_eq_true rfl)⟩ dX6_lawGives_31 (fun H locs hM => ?_)
    obtain ⟨rfl, rfl⟩ := so2 h
    exact bz_iret (pc := 34) X hM hr hlk dX6_lawGives_34 (Nat.le_of_ble_eq_true rfl) (Nat.le_of_ble_eq_true rfl)
  · subst hc
    have h := om_n rfl h
    have hl : lv_has ls 5 [(4, .null), (0, .ref (pB P + a0)), (1, .int a1), (2, .int a2), (3, .int a3)] := hl
    refine lv_iconst (pc := 14) (v := (1 : Int32)) hx hb dX6_lawGives_14 (by decide) ?_
    obtain ⟨rfl, rfl⟩ := so2 h
    exact bz_iret (pc := 15) X hM hr hlk dX6_lawGives_15 (Nat.le_of_ble_eq_true rfl) (Nat.le_of_ble_eq_true rfl)
theorem rX6_lawGives {N : Nat} {M : Mm} {a0 : Nat} {a1 : Int32} {a2 : Int32} {a3 : Int32} {r9 : Int32 × Mm} (h : fX6_lawGives N M a0 a1 a2 a3 = some r9) : ∃ fs, M[a0]? = some (.inr (6, fs)) := by
  unfold fX6_lawGives at h
  obtain ⟨_, e1, _⟩ := ob h
  exact gC_spec e1
theorem ctX6_lawGives (l : Launch) {P : PT} {N : Nat} {M : Mm} {a0 : Nat} {a1 : Int32} {a2 : Int32} {a3 : Int32} {r9 : Int32} {M9 : Mm} (h : fX6_lawGives N M a0 a1 a2 a3 = some (r9, M9)) : Ct l yX6_lawGives cX6_lawGives 5 (some .int) 3 0 P [.ref (pB P + a0), .int a1, .int a2, .int a3] M (some (.int r9)) M9 :=
  Ct.mk (by decide +kernel) (Nat.le_of_ble_eq_true rfl) (fun p e s m args below meth c hX => wX6_lawGives hX M a0 a1 a2 a3 h)
set_option maxHeartbeats 4000000 in
set_option maxRecDepth 100000 in
theorem wX10_law {p : Program} {l : Launch} {e : Env} {s : State} {m : MethodId} {args : Array Value} {below : List Frame} {meth : Method} {c : Code} {P : PT} {N : Nat}  {r9 : Int32} {M9 : Mm} (hX : Cy p s m args c meth cX10_law 4 RX10 "law" (some .int) P)  (M : Mm) (a0 : Nat) (a1 : Int32) (a2 : Int32) (a3 : Int32) (h : fX10_law N M a0 a1 a2 a3 = some (r9, M9)) : Wq p l e s m args below meth c 4 0 (some (.int r9)) M9 4 P 0 0 [(0, .ref (pB P + a0)), (1, .int a1), (2, .int a2), (3, .int a3)] [] M := by
  unfold fX10_law at h
  obtain ⟨_, _, h⟩ := ob h
  have hX0 := hX
  obtain ⟨X, hr, hlk, hnm⟩ := hX0
  have hx := X.1.1
  have hb := X.1.2.1
  intro H locs ls hM hl
  refine lv_iload_n (pc := 0) hx hb dX10_law_0 rfl (lv_at hl 1 rfl) ?_
  obtain ⟨v2, e1, h⟩ := ob h
  refine bz_callS1 (pc := 1) (As := [.int a1]) (rest := []) X hM hl.1 k_RX10_204 (ctX10_isLaw l e1) rfl rfl ⟨(Nat.le_of_ble_eq_true rfl), (Nat.le_of_ble_eq_true rfl)⟩ (Nat.le_of_ble_eq_true rfl) ⟨(Nat.le_of_ble_eq_true rfl), (Nat.le_of_ble_eq_true rfl)⟩ dX10_law_1 (fun H locs hM => ?_)
  refine lv_if_ne (pc := 4) (tgt := 13) hx hb dX10_law_4 (by decide) (fun hc => ?_) (fun hc => ?_)
  · have h := if_f hc h
    refine lv_aload_n (pc := 13) hx hb dX10_law_13 rfl (lv_at hl 0 rfl) ?_
    obtain ⟨q3, e4, h⟩ := ob h
    refine bz_getQ (pc := 14) X hM fl_RX10_10 e4 dX10_law_14 ?_
    refine lv_iload_n (pc := 17) hx hb dX10_law_17 rfl (lv_at hl 1 rfl) ?_
    refine lv_iload_n (pc := 18) hx hb dX10_law_18 rfl (lv_at hl 2 rfl) ?_
    refine lv_iload_n (pc := 19) hx hb dX10_law_19 rfl (lv_at hl 3 rfl) ?_
    obtain ⟨v6, M7, e5, h⟩ := ob2 h
    obtain ⟨fs8, hb9⟩ := (rX6_lawGives e5)
    refine bz_callV1 (pc := 20) (As := [.int a1, .int a2, .int a3]) (rest := []) X hM hl.1 k_RX10_207 (ctX6_lawGives l e5) rfl hb9 rfl rfl ⟨(Nat.le_of_ble_eq_true rfl), (Nat.le_of_ble_eq_true rfl)⟩ (Nat.le_of_ble_eq_true rfl) ⟨(Nat.le_of_ble_eq_true rfl), (Nat.le_of_ble_eq_true rfl)⟩ dX10_law_20 (fun H locs hM => ?_)
    obtain ⟨rfl, rfl⟩ := so2 h
    exact bz_iret (pc := 23) X hM hr hlk dX10_law_23 (Nat.le_of_ble_eq_true rfl) (Nat.le_of_ble_eq_true rfl)
  · have h := if_t hc h
    refine lv_aload_n (pc := 7) hx hb dX10_law_7 rfl (lv_at hl 0 rfl) ?_
    refine lv_iconst (pc := 8) (v := (1 : Int32)) hx hb dX10_law_8 (by decide) ?_
    obtain ⟨v11, M12, e10, h⟩ := ob2 h
    obtain ⟨fs13, hb14⟩ := (rX10_error e10)
    refine bz_callV1 (pc := 9) (As := [.int (1 : Int32)]) (rest := []) X hM hl.1 k_RX10_78 (ctX10_error l e10) rfl hb14 rfl rfl ⟨(Nat.le_of_ble_eq_true rfl), (Nat.le_of_ble_eq_true rfl)⟩ (Nat.le_of_ble_eq_true rfl) ⟨(Nat.le_of_ble_eq_true rfl), (Nat.le_of_ble_eq_true rfl)⟩ dX10_law_9 (fun H locs hM => ?_)
    obtain ⟨rfl, rfl⟩ := so2 h
    exact bz_iret (pc := 12) X hM hr hlk dX10_law_12 (Nat.le_of_ble_eq_true rfl) (Nat.le_of_ble_eq_true rfl)
theorem rX10_law {N : Nat} {M : Mm} {a0 : Nat} {a1 : Int32} {a2 : Int32} {a3 : Int32} {r9 : Int32 × Mm} (h : fX10_law N M a0 a1 a2 a3 = some r9) : ∃ fs, M[a0]? = some (.inr (10, fs)) := by
  unfold fX10_law at h
  obtain ⟨_, e1, _⟩ := ob h
  exact gC_spec e1
theorem ctX10_law (l : Launch) {P : PT} {N : Nat} {M : Mm} {a0 : Nat} {a1 : Int32} {a2 : Int32} {a3 : Int32} {r9 : Int32} {M9 : Mm} (h : fX10_law N M a0 a1 a2 a3 = some (r9, M9)) : Ct l yX10_law cX10_law 4 (some .int) 4 0 P [.ref (pB P + a0), .int a1, .int a2, .int a3] M (some (.int r9)) M9 :=
  Ct.mk (by decide +kernel) (Nat.le_of_ble_eq_true rfl) (fun p e s m args below meth c hX => wX10_law hX M a0 a1 a2 a3 h)
set_option maxHeartbeats 4000000 in
set_option maxRecDepth 100000 in
theorem wX11_isLaw {p : Program} {l : Launch} {e : Env} {s : State} {m : MethodId} {args : Array Value} {below : List Frame} {meth : Method} {c : Code} {P : PT}  {r9 : Int32} (hX : Cy p s m args c meth cX11_isLaw 1 RX11 "isLaw" (some .boolean) P)  (M : Mm) (a0 : Int32) (h : fX11_isLaw M a0 = some r9) : Wq p l e s m args below meth c 1 0 (some (.int r9)) M 1 P 0 0 [(0, .int a0)] [] M := by
  unfold fX11_isLaw at h
  have hX0 := hX
  obtain ⟨X, hr, hlk, hnm⟩ := hX0
  have hx := X.1.1
  have hb := X.1.2.1
  intro H locs ls hM hl
  refine lv_iload_n (pc := 0) hx hb dX11_isLaw_0 rfl (lv_at hl 0 rfl) ?_
  refine lv_i2l (pc := 1) (v := ((a0).toInt64)) hx hb dX11_isLaw_1 rfl ?_
  refine lv_lconst (pc := 2) (v := (0 : Int64)) hx hb dX11_isLaw_2 (by decide) ?_
  refine lv_ldc2 (pc := 3) (v := (5 : Int64)) hx hb X.1.2.2.2.1 (X.1.2.2.2.2 _ g_1451) dX11_isLaw_3 ?_
  obtain ⟨v2, e1, h⟩ := ob h
  refine bz_callS1 (pc := 6) (As := [.long ((a0).toInt64), .long (0 : Int64), .long (5 : Int64)]) (rest := []) X hM hl.1 k_RX11_57 (ctX11_in l e1) rfl rfl ⟨(Nat.le_of_ble_eq_true rfl), (Nat.le_of_ble_eq_true rfl)⟩ (Nat.le_of_ble_eq_true rfl) ⟨(Nat.le_of_ble_eq_true rfl), (Nat.le_of_ble_eq_true rfl)⟩ dX11_isLaw_6 (fun H locs hM => ?_)
  obtain ⟨v3, e4, h⟩ := ob h
  obtain rfl := so1 h
  exact bz_zretz (pc := 9) X hM hr hlk e4 dX11_isLaw_9 (Nat.le_of_ble_eq_true rfl) (Nat.le_of_ble_eq_true rfl)
theorem ctX11_isLaw (l : Launch) {P : PT} {M : Mm} {a0 : Int32} {r9 : Int32} (h : fX11_isLaw M a0 = some r9) : Ct l yX11_isLaw cX11_isLaw 1 (some .boolean) 1 0 P [.int a0] M (some (.int r9)) M :=
  Ct.mk (by decide +kernel) (Nat.le_of_ble_eq_true rfl) (fun p e s m args below meth c hX => wX11_isLaw hX M a0 h)
set_option maxHeartbeats 4000000 in
set_option maxRecDepth 100000 in
theorem wX11_lawOf {p : Program} {l : Launch} {e : Env} {s : State} {m : MethodId} {args : Array Value} {below : List Frame} {meth : Method} {c : Code} {P : PT} {N : Nat}  {r9 : Int32} {M9 : Mm} (hX : Cy p s m args c meth cX11_lawOf 6 RX11 "lawOf" (some .int) P)  (M : Mm) (a0 : Nat) (a1 : Int32) (a2 : Int32) (a3 : Int32) (h : fX11_lawOf N M a0 a1 a2 a3 = some (r9, M9)) : Wq p l e s m args below meth c 2 0 (some (.int r9)) M9 6 P 0 0 [(0, .ref (pB P + a0)), (1, .int a1), (2, .int a2), (3, .int a3)] [] M := by
  unfold fX11_lawOf at h
  obtain ⟨_, _, h⟩ := ob h
  have hX0 := hX
  obtain ⟨X, hr, hlk, hnm⟩ := hX0
  have hx := X.1.1
  have hb := X.1.2.1
  intro H locs ls hM hl
  refine lv_iconst (pc := 0) (v := (3 : Int32)) hx hb dX11_lawOf_0 (by decide) ?_
  refine lv_iload_n (pc := 1) hx hb dX11_lawOf_1 rfl (lv_at hl 1 rfl) ?_
  refine lv_iadd (pc := 2) hx hb dX11_lawOf_2 ?_
  refine lv_istore (pc := 3) (lv' := [(4, .int ((3 : Int32) + a1)), (0, .ref (pB P + a0)), (1, .int a1), (2, .int a2), (3, .int a3)]) hx hb dX11_lawOf_3 hl (by decide) rfl (fun ls hl => ?_)
  refine lv_aload_n (pc := 5) hx hb dX11_lawOf_5 rfl (lv_at hl 1 rfl) ?_
  obtain ⟨q1, e2, h⟩ := ob h
  refine bz_getQ (pc := 6) X hM fl_RX11_9 e2 dX11_lawOf_6 ?_
  refine lv_sipush (pc := 9) (v := (482 : Int32)) hx hb dX11_lawOf_9 (by decide) ?_
  refine lv_bipush (pc := 12) (v := (52 : Int32)) hx hb dX11_lawOf_12 (by decide) ?_
  refine lv_iload (pc := 14) hx hb dX11_lawOf_14 (lv_at hl 0 rfl) ?_
  refine lv_imul (pc := 16) hx hb dX11_lawOf_16 ?_
  refine lv_iadd (pc := 17) hx hb dX11_lawOf_17 ?_
  obtain ⟨v3, e4, h⟩ := ob h
  refine bz_iald (pc := 18) X hM e4 dX11_lawOf_18 ?_
  refine lv_if_ne (pc := 19) (tgt := 24) hx hb dX11_lawOf_19 (by decide) (fun hc => ?_) (fun hc => ?_)
  · have h := if_f hc h
    refine lv_aload_n (pc := 24) hx hb dX11_lawOf_24 rfl (lv_at hl 1 rfl) ?_
    obtain ⟨q5, e6, h⟩ := ob h
    refine bz_getQ (pc := 25) X hM fl_RX11_38 e6 dX11_lawOf_25 ?_
    refine lv_iconst (pc := 28) (v := (0 : Int32)) hx hb dX11_lawOf_28 (by decide) ?_
    refine lv_iload_n (pc := 29) hx hb dX11_lawOf_29 rfl (lv_at hl 3 rfl) ?_
    obtain ⟨M7, e8, h⟩ := ob h
    refine bz_iast (pc := 30) X hM e8 dX11_lawOf_30 (fun H locs hM => ?_)
    refine lv_aload_n (pc := 31) hx hb dX11_lawOf_31 rfl (lv_at hl 1 rfl) ?_
    obtain ⟨q9, e10, h⟩ := ob h
    refine bz_getQ (pc := 32) X hM fl_RX11_38 e10 dX11_lawOf_32 ?_
    refine lv_iconst (pc := 35) (v := (1 : Int32)) hx hb dX11_lawOf_35 (by decide) ?_
    refine lv_iload_n (pc := 36) hx hb dX11_lawOf_36 rfl (lv_at hl 4 rfl) ?_
    obtain ⟨M11, e12, h⟩ := ob h
    refine bz_iast (pc := 37) X hM e12 dX11_lawOf_37 (fun H locs hM => ?_)
    refine lv_aload_n (pc := 38) hx hb dX11_lawOf_38 rfl (lv_at hl 1 rfl) ?_
    refine lv_iload (pc := 39) hx hb dX11_lawOf_39 (lv_at hl 0 rfl) ?_
    obtain ⟨v14, M15, e13, h⟩ := ob2 h
    obtain ⟨fs16, hb17⟩ := (rX11_says e13)
    refine bz_callV1 (pc := 41) (As := [.int ((3 : Int32) + a1)]) (rest := []) X hM hl.1 k_RX11_114 (ctX11_says l e13) rfl hb17 rfl rfl ⟨(Nat.le_of_ble_eq_true rfl), (Nat.le_of_ble_eq_true rfl)⟩ (Nat.le_of_ble_eq_true rfl) ⟨(Nat.le_of_ble_eq_true rfl), (Nat.le_of_ble_eq_true rfl)⟩ dX11_lawOf_41 (fun H locs hM => ?_)
    refine lv_istore (pc := 44) (lv' := [(5, .int v14), (4, .int ((3 : Int32) + a1)), (0, .ref (pB P + a0)), (1, .int a1), (2, .int a2), (3, .int a3)]) hx hb dX11_lawOf_44 hl (by decide) rfl (fun ls hl => ?_)
    refine lv_iload (pc := 46) hx hb dX11_lawOf_46 (lv_at hl 0 rfl) ?_
    refine lv_if_ge (pc := 48) (tgt := 55) hx hb dX11_lawOf_48 (by decide) (fun hc => ?_) (fun hc => ?_)
    · have h := if_t hc h
      refine lv_iload (pc := 55) hx hb dX11_lawOf_55 (lv_at hl 0 rfl) ?_
      refine lv_bipush (pc := 57) (v := (9 : Int32)) hx hb dX11_lawOf_57 (by decide) ?_
      refine lv_icmp_le (pc := 59) (tgt := 67) hx hb dX11_lawOf_59 (by decide) (fun hc => ?_) (fun hc => ?_)
      · have h := if_t hc h
        refine lv_iload (pc := 67) hx hb dX11_lawOf_67 (lv_at hl 0 rfl) ?_
        obtain ⟨rfl, rfl⟩ := so2 h
        exact bz_iret (pc := 69) X hM hr hlk dX11_lawOf_69 (Nat.le_of_ble_eq_true rfl) (Nat.le_of_ble_eq_true rfl)
      · have h := if_f hc h
        refine lv_bipush (pc := 62) (v := (9 : Int32)) hx hb dX11_lawOf_62 (by decide) ?_
        refine lv_goto (pc := 64) (tgt := 69) hx hb dX11_lawOf_64 (by decide) ?_
        obtain ⟨rfl, rfl⟩ := so2 h
        exact bz_iret (pc := 69) X hM hr hlk dX11_lawOf_69 (Nat.le_of_ble_eq_true rfl) (Nat.le_of_ble_eq_true rfl)
    · have h := if_f hc h
      refine lv_iconst (pc := 51) (v := (0 : Int32)) hx hb dX11_lawOf_51 (by decide) ?_
      refine lv_goto (pc := 52) (tgt := 69) hx hb dX11_lawOf_52 (by decide) ?_
      obtain ⟨rfl, rfl⟩ := so2 h
      exact bz_iret (pc := 69) X hM hr hlk dX11_lawOf_69 (Nat.le_of_ble_eq_true rfl) (Nat.le_of_ble_eq_true rfl)
  · have h := if_t hc h
    refine lv_iconst (pc := 22) (v := (1 : Int32)) hx hb dX11_lawOf_22 (by decide) ?_
    obtain ⟨rfl, rfl⟩ := so2 h
    exact bz_iret (pc := 23) X hM hr hlk dX11_lawOf_23 (Nat.le_of_ble_eq_true rfl) (Nat.le_of_ble_eq_true rfl)
theorem rX11_lawOf {N : Nat} {M : Mm} {a0 : Nat} {a1 : Int32} {a2 : Int32} {a3 : Int32} {r9 : Int32 × Mm} (h : fX11_lawOf N M a0 a1 a2 a3 = some r9) : ∃ fs, M[a0]? = some (.inr (11, fs)) := by
  unfold fX11_lawOf at h
  obtain ⟨_, e1, _⟩ := ob h
  exact gC_spec e1
theorem ctX11_lawOf (l : Launch) {P : PT} {N : Nat} {M : Mm} {a0 : Nat} {a1 : Int32} {a2 : Int32} {a3 : Int32} {r9 : Int32} {M9 : Mm} (h : fX11_lawOf N M a0 a1 a2 a3 = some (r9, M9)) : Ct l yX11_lawOf cX11_lawOf 6 (some .int) 2 0 P [.ref (pB P + a0), .int a1, .int a2, .int a3] M (some (.int r9)) M9 :=
  Ct.mk (by decide +kernel) (Nat.le_of_ble_eq_true rfl) (fun p e s m args below meth c hX => wX11_lawOf hX M a0 a1 a2 a3 h)
set_option maxHeartbeats 4000000 in
set_option maxRecDepth 100000 in
theorem wX11_law {p : Program} {l : Launch} {e : Env} {s : State} {m : MethodId} {args : Array Value} {below : List Frame} {meth : Method} {c : Code} {P : PT} {N : Nat}  {r9 : Int32} {M9 : Mm} (hX : Cy p s m args c meth cX11_law 4 RX11 "law" (some .int) P)  (M : Mm) (a0 : Nat) (a1 : Int32) (a2 : Int32) (a3 : Int32) (h : fX11_law N M a0 a1 a2 a3 = some (r9, M9)) : Wq p l e s m args below meth c 3 0 (some (.int r9)) M9 4 P 0 0 [(0, .ref (pB P + a0)), (1, .int a1), (2, .int a2), (3, .int a3)] [] M := by
  unfold fX11_law at h
  obtain ⟨_, _, h⟩ := ob h
  have hX0 := hX
  obtain ⟨X, hr, hlk, hnm⟩ := hX0
  have hx := X.1.1
  have hb := X.1.2.1
  intro H locs ls hM hl
  refine lv_iload_n (pc := 0) hx hb dX11_law_0 rfl (lv_at hl 1 rfl) ?_
  obtain ⟨v2, e1, h⟩ := ob h
  refine bz_callS1 (pc := 1) (As := [.int a1]) (rest := []) X hM hl.1 k_RX11_211 (ctX11_isLaw l e1) rfl rfl ⟨(Nat.le_of_ble_eq_true rfl), (Nat.le_of_ble_eq_true rfl)⟩ (Nat.le_of_ble_eq_true rfl) ⟨(Nat.le_of_ble_eq_true rfl), (Nat.le_of_ble_eq_true rfl)⟩ dX11_law_1 (fun H locs hM => ?_)
  refine lv_if_eq (pc := 4) (tgt := 17) hx hb dX11_law_4 (by decide) (fun hc => ?_) (fun hc => ?_)
  · have h := if_t hc h
    refine lv_aload_n (pc := 17) hx hb dX11_law_17 rfl (lv_at hl 0 rfl) ?_
    refine lv_iconst (pc := 18) (v := (1 : Int32)) hx hb dX11_law_18 (by decide) ?_
    obtain ⟨v4, M5, e3, h⟩ := ob2 h
    obtain ⟨fs6, hb7⟩ := (rX11_error e3)
    refine bz_callV1 (pc := 19) (As := [.int (1 : Int32)]) (rest := []) X hM hl.1 k_RX11_73 (ctX11_error l e3) rfl hb7 rfl rfl ⟨(Nat.le_of_ble_eq_true rfl), (Nat.le_of_ble_eq_true rfl)⟩ (Nat.le_of_ble_eq_true rfl) ⟨(Nat.le_of_ble_eq_true rfl), (Nat.le_of_ble_eq_true rfl)⟩ dX11_law_19 (fun H locs hM => ?_)
    obtain ⟨rfl, rfl⟩ := so2 h
    exact bz_iret (pc := 22) X hM hr hlk dX11_law_22 (Nat.le_of_ble_eq_true rfl) (Nat.le_of_ble_eq_true rfl)
  · have h := if_f hc h
    refine lv_aload_n (pc := 7) hx hb dX11_law_7 rfl (lv_at hl 0 rfl) ?_
    refine lv_iload_n (pc := 8) hx hb dX11_law_8 rfl (lv_at hl 1 rfl) ?_
    refine lv_iload_n (pc := 9) hx hb dX11_law_9 rfl (lv_at hl 2 rfl) ?_
    refine lv_iload_n (pc := 10) hx hb dX11_law_10 rfl (lv_at hl 3 rfl) ?_
    obtain ⟨v9, M10, e8, h⟩ := ob2 h
    obtain ⟨fs11, hb12⟩ := (rX11_lawOf e8)
    refine bz_callV1 (pc := 11) (As := [.int a1, .int a2, .int a3]) (rest := []) X hM hl.1 k_RX11_214 (ctX11_lawOf l e8) rfl hb12 rfl rfl ⟨(Nat.le_of_ble_eq_true rfl), (Nat.le_of_ble_eq_true rfl)⟩ (Nat.le_of_ble_eq_true rfl) ⟨(Nat.le_of_ble_eq_true rfl), (Nat.le_of_ble_eq_true rfl)⟩ dX11_law_11 (fun H locs hM => ?_)
    refine lv_goto (pc := 14) (tgt := 22) hx hb dX11_law_14 (by decide) ?_
    obtain ⟨rfl, rfl⟩ := so2 h
    exact bz_iret (pc := 22) X hM hr hlk dX11_law_22 (Nat.le_of_ble_eq_true rfl) (Nat.le_of_ble_eq_true rfl)
theorem rX11_law {N : Nat} {M : Mm} {a0 : Nat} {a1 : Int32} {a2 : Int32} {a3 : Int32} {r9 : Int32 × Mm} (h : fX11_law N M a0 a1 a2 a3 = some r9) : ∃ fs, M[a0]? = some (.inr (11, fs)) := by
  unfold fX11_law at h
  obtain ⟨_, e1, _⟩ := ob h
  exact gC_spec e1
theorem ctX11_law (l : Launch) {P : PT} {N : Nat} {M : Mm} {a0 : Nat} {a1 : Int32} {a2 : Int32} {a3 : Int32} {r9 : Int32} {M9 : Mm} (h : fX11_law N M a0 a1 a2 a3 = some (r9, M9)) : Ct l yX11_law cX11_law 4 (some .int) 3 0 P [.ref (pB P + a0), .int a1, .int a2, .int a3] M (some (.int r9)) M9 :=
  Ct.mk (by decide +kernel) (Nat.le_of_ble_eq_true rfl) (fun p e s m args below meth c hX => wX11_law hX M a0 a1 a2 a3 h)
set_option maxHeartbeats 4000000 in
set_option maxRecDepth 100000 in
theorem wX10_isPair {p : Program} {l : Launch} {e : Env} {s : State} {m : MethodId} {args : Array Value} {below : List Frame} {meth : Method} {c : Code} {P : PT}  {r9 : Int32} (hX : Cy p s m args c meth cX10_isPair 2 RX10 "isPair" (some .boolean) P)  (M : Mm) (a0 : Nat) (a1 : Int32) (h : fX10_isPair M a0 a1 = some r9) : Wq p l e s m args below meth c 2 0 (some (.int r9)) M 2 P 0 0 [(0, .ref (pB P + a0)), (1, .int a1)] [] M := by
  unfold fX10_isPair at h
  obtain ⟨_, _, h⟩ := ob h
  have hX0 := hX
  obtain ⟨X, hr, hlk, hnm⟩ := hX0
  have hx := X.1.1
  have hb := X.1.2.1
  intro H locs ls hM hl
  refine lv_iload_n (pc := 0) hx hb dX10_isPair_0 rfl (lv_at hl 1 rfl) ?_
  refine lv_if_lt (pc := 1) (tgt := 41) hx hb dX10_isPair_1 (by decide) (fun hc => ?_) (fun hc => ?_)
  · have h := if_t hc h
    refine lv_iconst (pc := 41) (v := (0 : Int32)) hx hb dX10_isPair_41 (by decide) ?_
    obtain rfl := so1 h
    exact bz_zret (pc := 42) X hM hr hlk (by decide) dX10_isPair_42 (Nat.le_of_ble_eq_true rfl) (Nat.le_of_ble_eq_true rfl)
  · have h := if_f hc h
    refine lv_aload_n (pc := 4) hx hb dX10_isPair_4 rfl (lv_at hl 0 rfl) ?_
    refine lv_iload_n (pc := 5) hx hb dX10_isPair_5 rfl (lv_at hl 1 rfl) ?_
    refine lv_bipush (pc := 6) (v := (10 : Int32)) hx hb dX10_isPair_6 (by decide) ?_
    refine lv_idiv (pc := 8) hx hb dX10_isPair_8 (by decide) ?_
    obtain ⟨v2, e1, h⟩ := ob h
    obtain ⟨fs3, hb4⟩ := (rX10_isBar e1)
    refine bz_callV1 (pc := 9) (As := [.int (a1 / (10 : Int32))]) (rest := []) X hM hl.1 k_RX10_100 (ctX10_isBar l e1) rfl hb4 rfl rfl ⟨(Nat.le_of_ble_eq_true rfl), (Nat.le_of_ble_eq_true rfl)⟩ (Nat.le_of_ble_eq_true rfl) ⟨(Nat.le_of_ble_eq_true rfl), (Nat.le_of_ble_eq_true rfl)⟩ dX10_isPair_9 (fun H locs hM => ?_)
    refine lv_if_eq (pc := 12) (tgt := 41) hx hb dX10_isPair_12 (by decide) (fun hc => ?_) (fun hc => ?_)
    · have h := if_t hc h
      refine lv_iconst (pc := 41) (v := (0 : Int32)) hx hb dX10_isPair_41 (by decide) ?_
      obtain rfl := so1 h
      exact bz_zret (pc := 42) X hM hr hlk (by decide) dX10_isPair_42 (Nat.le_of_ble_eq_true rfl) (Nat.le_of_ble_eq_true rfl)
    · have h := if_f hc h
      refine lv_aload_n (pc := 15) hx hb dX10_isPair_15 rfl (lv_at hl 0 rfl) ?_
      refine lv_iload_n (pc := 16) hx hb dX10_isPair_16 rfl (lv_at hl 1 rfl) ?_
      refine lv_bipush (pc := 17) (v := (10 : Int32)) hx hb dX10_isPair_17 (by decide) ?_
      refine bz_irem (pc := 19) hx hb dX10_isPair_19 (by decide) ?_
      obtain ⟨v6, e5, h⟩ := ob h
      obtain ⟨fs7, hb8⟩ := (rX10_isBar e5)
      refine bz_callV1 (pc := 20) (As := [.int (rmI a1 ((10 : Int32)))]) (rest := []) X hM hl.1 k_RX10_100 (ctX10_isBar l e5) rfl hb8 rfl rfl ⟨(Nat.le_of_ble_eq_true rfl), (Nat.le_of_ble_eq_true rfl)⟩ (Nat.le_of_ble_eq_true rfl) ⟨(Nat.le_of_ble_eq_true rfl), (Nat.le_of_ble_eq_true rfl)⟩ dX10_isPair_20 (fun H locs hM => ?_)
      refine lv_if_eq (pc := 23) (tgt := 41) hx hb dX10_isPair_23 (by decide) (fun hc => ?_) (fun hc => ?_)
      · have h := if_t hc h
        refine lv_iconst (pc := 41) (v := (0 : Int32)) hx hb dX10_isPair_41 (by decide) ?_
        obtain rfl := so1 h
        exact bz_zret (pc := 42) X hM hr hlk (by decide) dX10_isPair_42 (Nat.le_of_ble_eq_true rfl) (Nat.le_of_ble_eq_true rfl)
      · have h := if_f hc h
        refine lv_iload_n (pc := 26) hx hb dX10_isPair_26 rfl (lv_at hl 1 rfl) ?_
        refine lv_bipush (pc := 27) (v := (10 : Int32)) hx hb dX10_isPair_27 (by decide) ?_
        refine lv_idiv (pc := 29) hx hb dX10_isPair_29 (by decide) ?_
        refine lv_iload_n (pc := 30) hx hb dX10_isPair_30 rfl (lv_at hl 1 rfl) ?_
        refine lv_bipush (pc := 31) (v := (10 : Int32)) hx hb dX10_isPair_31 (by decide) ?_
        refine bz_irem (pc := 33) hx hb dX10_isPair_33 (by decide) ?_
        refine lv_icmp_eq (pc := 34) (tgt := 41) hx hb dX10_isPair_34 (by decide) (fun hc => ?_) (fun hc => ?_)
        · have h := if_t hc h
          refine lv_iconst (pc := 41) (v := (0 : Int32)) hx hb dX10_isPair_41 (by decide) ?_
          obtain rfl := so1 h
          exact bz_zret (pc := 42) X hM hr hlk (by decide) dX10_isPair_42 (Nat.le_of_ble_eq_true rfl) (Nat.le_of_ble_eq_true rfl)
        · have h := if_f hc h
          refine lv_iconst (pc := 37) (v := (1 : Int32)) hx hb dX10_isPair_37 (by decide) ?_
          refine lv_goto (pc := 38) (tgt := 42) hx hb dX10_isPair_38 (by decide) ?_
          obtain rfl := so1 h
          exact bz_zret (pc := 42) X hM hr hlk (by decide) dX10_isPair_42 (Nat.le_of_ble_eq_true rfl) (Nat.le_of_ble_eq_true rfl)
theorem rX10_isPair {M : Mm} {a0 : Nat} {a1 : Int32} {r9 : Int32} (h : fX10_isPair M a0 a1 = some r9) : ∃ fs, M[a0]? = some (.inr (10, fs)) := by
  unfold fX10_isPair at h
  obtain ⟨_, e1, _⟩ := ob h
  exact gC_spec e1
theorem ctX10_isPair (l : Launch) {P : PT} {M : Mm} {a0 : Nat} {a1 : Int32} {r9 : Int32} (h : fX10_isPair M a0 a1 = some r9) : Ct l yX10_isPair cX10_isPair 2 (some .boolean) 2 0 P [.ref (pB P + a0), .int a1] M (some (.int r9)) M :=
  Ct.mk (by decide +kernel) (Nat.le_of_ble_eq_true rfl) (fun p e s m args below meth c hX => wX10_isPair hX M a0 a1 h)
set_option maxHeartbeats 4000000 in
set_option maxRecDepth 100000 in
theorem wX10_isWindow {p : Program} {l : Launch} {e : Env} {s : State} {m : MethodId} {args : Array Value} {below : List Frame} {meth : Method} {c : Code} {P : PT}  {r9 : Int32} (hX : Cy p s m args c meth cX10_isWindow 1 RX10 "isWindow" (some .boolean) P)  (M : Mm) (a0 : Int32) (h : fX10_isWindow M a0 = some r9) : Wq p l e s m args below meth c 1 0 (some (.int r9)) M 1 P 0 0 [(0, .int a0)] [] M := by
  unfold fX10_isWindow at h
  have hX0 := hX
  obtain ⟨X, hr, hlk, hnm⟩ := hX0
  have hx := X.1.1
  have hb := X.1.2.1
  intro H locs ls hM hl
  refine lv_iload_n (pc := 0) hx hb dX10_isWindow_0 rfl (lv_at hl 0 rfl) ?_
  refine lv_iconst (pc := 1) (v := (0 : Int32)) hx hb dX10_isWindow_1 (by decide) ?_
  refine lv_bipush (pc := 2) (v := (50 : Int32)) hx hb dX10_isWindow_2 (by decide) ?_
  obtain ⟨v2, e1, h⟩ := ob h
  refine bz_callS1 (pc := 4) (As := [.int a0, .int (0 : Int32), .int (50 : Int32)]) (rest := []) X hM hl.1 k_RX10_74 (ctX10_within l e1) rfl rfl ⟨(Nat.le_of_ble_eq_true rfl), (Nat.le_of_ble_eq_true rfl)⟩ (Nat.le_of_ble_eq_true rfl) ⟨(Nat.le_of_ble_eq_true rfl), (Nat.le_of_ble_eq_true rfl)⟩ dX10_isWindow_4 (fun H locs hM => ?_)
  obtain ⟨v3, e4, h⟩ := ob h
  obtain rfl := so1 h
  exact bz_zretz (pc := 7) X hM hr hlk e4 dX10_isWindow_7 (Nat.le_of_ble_eq_true rfl) (Nat.le_of_ble_eq_true rfl)
theorem ctX10_isWindow (l : Launch) {P : PT} {M : Mm} {a0 : Int32} {r9 : Int32} (h : fX10_isWindow M a0 = some r9) : Ct l yX10_isWindow cX10_isWindow 1 (some .boolean) 1 0 P [.int a0] M (some (.int r9)) M :=
  Ct.mk (by decide +kernel) (Nat.le_of_ble_eq_true rfl) (fun p e s m args below meth c hX => wX10_isWindow hX M a0 h)
set_option maxHeartbeats 4000000 in
set_option maxRecDepth 100000 in
theorem wX1_hear {p : Program} {l : Launch} {e : Env} {s : State} {m : MethodId} {args : Array Value} {below : List Frame} {meth : Method} {c : Code} {P : PT} {N : Nat}  {M9 : Mm} (hX : Cy p s m args c meth cX1_hear 3 RX1 "hear" none P)  (M : Mm) (a0 : Nat) (a1 : Nat) (a2 : Int32) (h : fX1_hear N M a0 a1 a2 = some M9) : Wq p l e s m args below meth c 5 0 none M9 3 P 0 0 [(0, .ref (pB P + a0)), (1, .ref (pB P + a1)), (2, .int a2)] [] M := by
  unfold fX1_hear at h
  obtain ⟨_, _, h⟩ := ob h
  have hX0 := hX
  obtain ⟨X, hr, hlk, hnm⟩ := hX0
  have hx := X.1.1
  have hb := X.1.2.1
  intro H locs ls hM hl
  refine lv_aload_n (pc := 0) hx hb dX1_hear_0 rfl (lv_at hl 0 rfl) ?_
  obtain ⟨q1, e2, h⟩ := ob h
  refine bz_getQ (pc := 1) X hM fl_RX1_12 e2 dX1_hear_1 ?_
  refine lv_aload_n (pc := 4) hx hb dX1_hear_4 rfl (lv_at hl 1 rfl) ?_
  refine lv_iload_n (pc := 5) hx hb dX1_hear_5 rfl (lv_at hl 2 rfl) ?_
  refine lv_bipush (pc := 6) (v := (10 : Int32)) hx hb dX1_hear_6 (by decide) ?_
  refine lv_idiv (pc := 8) hx hb dX1_hear_8 (by decide) ?_
  obtain ⟨M4, e3, h⟩ := ob h
  obtain ⟨fs5, hb6⟩ := (rX7_hear e3)
  refine bz_callV0 (pc := 9) (As := [.ref (pB P + a1), .int (a2 / (10 : Int32))]) (rest := []) X hM hl.1 k_RX1_33 (ctX7_hear l e3) rfl hb6 rfl rfl ⟨(Nat.le_of_ble_eq_true rfl), (Nat.le_of_ble_eq_true rfl)⟩ (Nat.le_of_ble_eq_true rfl) ⟨(Nat.le_of_ble_eq_true rfl), (Nat.le_of_ble_eq_true rfl)⟩ dX1_hear_9 (fun H locs hM => ?_)
  refine lv_aload_n (pc := 12) hx hb dX1_hear_12 rfl (lv_at hl 0 rfl) ?_
  obtain ⟨q7, e8, h⟩ := ob h
  refine bz_getQ (pc := 13) X hM fl_RX1_18 e8 dX1_hear_13 ?_
  refine lv_aload_n (pc := 16) hx hb dX1_hear_16 rfl (lv_at hl 1 rfl) ?_
  refine lv_iload_n (pc := 17) hx hb dX1_hear_17 rfl (lv_at hl 2 rfl) ?_
  refine lv_bipush (pc := 18) (v := (10 : Int32)) hx hb dX1_hear_18 (by decide) ?_
  refine bz_irem (pc := 20) hx hb dX1_hear_20 (by decide) ?_
  obtain ⟨M10, e9, h⟩ := ob h
  obtain ⟨fs11, hb12⟩ := (rX7_hear e9)
  refine bz_callV0 (pc := 21) (As := [.ref (pB P + a1), .int (rmI a2 ((10 : Int32)))]) (rest := []) X hM hl.1 k_RX1_33 (ctX7_hear l e9) rfl hb12 rfl rfl ⟨(Nat.le_of_ble_eq_true rfl), (Nat.le_of_ble_eq_true rfl)⟩ (Nat.le_of_ble_eq_true rfl) ⟨(Nat.le_of_ble_eq_true rfl), (Nat.le_of_ble_eq_true rfl)⟩ dX1_hear_21 (fun H locs hM => ?_)
  obtain rfl := so1 h
  exact bz_vret (pc := 24) X hM hr hlk dX1_hear_24 (Nat.le_of_ble_eq_true rfl) (Nat.le_of_ble_eq_true rfl)
theorem rX1_hear {N : Nat} {M : Mm} {a0 : Nat} {a1 : Nat} {a2 : Int32} {r9 : Mm} (h : fX1_hear N M a0 a1 a2 = some r9) : ∃ fs, M[a0]? = some (.inr (1, fs)) := by
  unfold fX1_hear at h
  obtain ⟨_, e1, _⟩ := ob h
  exact gC_spec e1
theorem ctX1_hear (l : Launch) {P : PT} {N : Nat} {M : Mm} {a0 : Nat} {a1 : Nat} {a2 : Int32} {M9 : Mm} (h : fX1_hear N M a0 a1 a2 = some M9) : Ct l yX1_hear cX1_hear 3 none 5 0 P [.ref (pB P + a0), .ref (pB P + a1), .int a2] M none M9 :=
  Ct.mk (by decide +kernel) (Nat.le_of_ble_eq_true rfl) (fun p e s m args below meth c hX => wX1_hear hX M a0 a1 a2 h)
set_option maxHeartbeats 4000000 in
set_option maxRecDepth 100000 in
theorem wBX7_keepAbove_16 {p : Program} {l : Launch} {e : Env} {s : State} {m : MethodId} {args : Array Value} {below : List Frame} {meth : Method} {c : Code} {P : PT} {N : Nat} {K16 : Mm → Nat → Int32 → Int32 → Option (Mm)}  {M9 : Mm} (hX : Cy p s m args c meth cX7_keepAbove 3 RX7 "keepAbove" none P)  (hK16 : ∀ (M : Mm) (x0 : Nat) (x1 : Int32) (x2 : Int32), K16 M x0 x1 x2 = some M9 → Wq p l e s m args below meth c 2 0 none M9 3 P 0 16 [(0, .ref (pB P + x0)), (1, .int x1), (2, .int x2)] [] M) (M : Mm) (x0 : Nat) (x1 : Int32) (x2 : Int32)  (h : BX7_keepAbove_16 N K16 M x0 x1 x2 = some M9) : Wq p l e s m args below meth c 2 0 none M9 3 P 0 16 [(0, .ref (pB P + x0)), (1, .int x1), (2, .int x2)] [] M := by
  unfold BX7_keepAbove_16 at h
  have hX0 := hX
  obtain ⟨X, hr, hlk, hnm⟩ := hX0
  have hx := X.1.1
  have hb := X.1.2.1
  intro H locs ls hM hl
  refine lv_iload_n (pc := 16) hx hb dX7_keepAbove_16 rfl (lv_at hl 2 rfl) ?_
  refine lv_aload_n (pc := 17) hx hb dX7_keepAbove_17 rfl (lv_at hl 0 rfl) ?_
  obtain ⟨q1, e2, h⟩ := ob h
  refine bz_getQ (pc := 18) X hM fl_RX7_14 e2 dX7_keepAbove_18 ?_
  obtain ⟨v4, e3, h⟩ := ob h
  obtain ⟨fs5, hb6⟩ := (rX3_size e3)
  refine bz_callV1 (pc := 21) (As := []) (rest := [.int x2]) X hM hl.1 k_RX7_63 (ctX3_size l e3) rfl hb6 rfl rfl ⟨(Nat.le_of_ble_eq_true rfl), (Nat.le_of_ble_eq_true rfl)⟩ (Nat.le_of_ble_eq_true rfl) ⟨(Nat.le_of_ble_eq_true rfl), (Nat.le_of_ble_eq_true rfl)⟩ dX7_keepAbove_21 (fun H locs hM => ?_)
  refine lv_icmp_ge (pc := 24) (tgt := 74) hx hb dX7_keepAbove_24 (by decide) (fun hc => ?_) (fun hc => ?_)
  · have h := if_t hc h
    obtain rfl := so1 h
    exact bz_vret (pc := 74) X hM hr hlk dX7_keepAbove_74 (Nat.le_of_ble_eq_true rfl) (Nat.le_of_ble_eq_true rfl)
  · have h := if_f hc h
    refine lv_aload_n (pc := 27) hx hb dX7_keepAbove_27 rfl (lv_at hl 0 rfl) ?_
    refine lv_iload_n (pc := 28) hx hb dX7_keepAbove_28 rfl (lv_at hl 2 rfl) ?_
    refine lv_iload_n (pc := 29) hx hb dX7_keepAbove_29 rfl (lv_at hl 1 rfl) ?_
    obtain ⟨v8, e7, h⟩ := ob h
    obtain ⟨fs9, hb10⟩ := (rX7_isCounted e7)
    refine bz_callV1 (pc := 30) (As := [.int x2, .int x1]) (rest := []) X hM hl.1 k_RX7_103 (ctX7_isCounted l e7) rfl hb10 rfl rfl ⟨(Nat.le_of_ble_eq_true rfl), (Nat.le_of_ble_eq_true rfl)⟩ (Nat.le_of_ble_eq_true rfl) ⟨(Nat.le_of_ble_eq_true rfl), (Nat.le_of_ble_eq_true rfl)⟩ dX7_keepAbove_30 (fun H locs hM => ?_)
    refine lv_if_eq (pc := 33) (tgt := 68) hx hb dX7_keepAbove_33 (by decide) (fun hc => ?_) (fun hc => ?_)
    · have h := if_t hc h
      refine lv_iinc (pc := 68) (v := (x2 + (1 : Int32))) (lv' := [(2, .int (x2 + (1 : Int32))), (0, .ref (pB P + x0)), (1, .int x1)]) hx hb dX7_keepAbove_68 hl (k := 2) rfl rfl (by decide) rfl (fun ls hl => ?_)
      refine lv_goto (pc := 71) (tgt := 16) hx hb dX7_keepAbove_71 (by decide) ?_
      exact hK16 _ _ _ _ h H locs ls hM (lv_sub hl [1, 2, 0] rfl)
    · have h := if_f hc h
      refine lv_aload_n (pc := 36) hx hb dX7_keepAbove_36 rfl (lv_at hl 0 rfl) ?_
      obtain ⟨q11, e12, h⟩ := ob h
      refine bz_getQ (pc := 37) X hM fl_RX7_29 e12 dX7_keepAbove_37 ?_
      refine lv_aload_n (pc := 40) hx hb dX7_keepAbove_40 rfl (lv_at hl 0 rfl) ?_
      obtain ⟨q13, e14, h⟩ := ob h
      refine bz_getQ (pc := 41) X hM fl_RX7_14 e14 dX7_keepAbove_41 ?_
      refine lv_iload_n (pc := 44) hx hb dX7_keepAbove_44 rfl (lv_at hl 2 rfl) ?_
      obtain ⟨v16, e15, h⟩ := ob h
      obtain ⟨fs17, hb18⟩ := (rX3_at e15)
      refine bz_callV1 (pc := 45) (As := [.int x2]) (rest := [.ref (pB P + q11)]) X hM hl.1 k_RX7_49 (ctX3_at l e15) rfl hb18 rfl rfl ⟨(Nat.le_of_ble_eq_true rfl), (Nat.le_of_ble_eq_true rfl)⟩ (Nat.le_of_ble_eq_true rfl) ⟨(Nat.le_of_ble_eq_true rfl), (Nat.le_of_ble_eq_true rfl)⟩ dX7_keepAbove_45 (fun H locs hM => ?_)
      obtain ⟨v20, M21, e19, h⟩ := ob2 h
      obtain ⟨fs22, hb23⟩ := (rX3_add e19)
      refine bz_callV1 (pc := 48) (As := [.int v16]) (rest := []) X hM hl.1 k_RX7_96 (ctX3_add l e19) rfl hb23 rfl rfl ⟨(Nat.le_of_ble_eq_true rfl), (Nat.le_of_ble_eq_true rfl)⟩ (Nat.le_of_ble_eq_true rfl) ⟨(Nat.le_of_ble_eq_true rfl), (Nat.le_of_ble_eq_true rfl)⟩ dX7_keepAbove_48 (fun H locs hM => ?_)
      refine lv_pop (pc := 51) hx hb dX7_keepAbove_51 rfl ?_
      refine lv_aload_n (pc := 52) hx hb dX7_keepAbove_52 rfl (lv_at hl 0 rfl) ?_
      obtain ⟨q24, e25, h⟩ := ob h
      refine bz_getQ (pc := 53) X hM fl_RX7_32 e25 dX7_keepAbove_53 ?_
      refine lv_aload_n (pc := 56) hx hb dX7_keepAbove_56 rfl (lv_at hl 0 rfl) ?_
      obtain ⟨q26, e27, h⟩ := ob h
      refine bz_getQ (pc := 57) X hM fl_RX7_20 e27 dX7_keepAbove_57 ?_
      refine lv_iload_n (pc := 60) hx hb dX7_keepAbove_60 rfl (lv_at hl 2 rfl) ?_
      obtain ⟨v29, e28, h⟩ := ob h
      obtain ⟨fs30, hb31⟩ := (rX3_at e28)
      refine bz_callV1 (pc := 61) (As := [.int x2]) (rest := [.ref (pB P + q24)]) X hM hl.1 k_RX7_49 (ctX3_at l e28) rfl hb31 rfl rfl ⟨(Nat.le_of_ble_eq_true rfl), (Nat.le_of_ble_eq_true rfl)⟩ (Nat.le_of_ble_eq_true rfl) ⟨(Nat.le_of_ble_eq_true rfl), (Nat.le_of_ble_eq_true rfl)⟩ dX7_keepAbove_61 (fun H locs hM => ?_)
      obtain ⟨v33, M34, e32, h⟩ := ob2 h
      obtain ⟨fs35, hb36⟩ := (rX3_add e32)
      refine bz_callV1 (pc := 64) (As := [.int v29]) (rest := []) X hM hl.1 k_RX7_96 (ctX3_add l e32) rfl hb36 rfl rfl ⟨(Nat.le_of_ble_eq_true rfl), (Nat.le_of_ble_eq_true rfl)⟩ (Nat.le_of_ble_eq_true rfl) ⟨(Nat.le_of_ble_eq_true rfl), (Nat.le_of_ble_eq_true rfl)⟩ dX7_keepAbove_64 (fun H locs hM => ?_)
      refine lv_pop (pc := 67) hx hb dX7_keepAbove_67 rfl ?_
      refine lv_iinc (pc := 68) (v := (x2 + (1 : Int32))) (lv' := [(2, .int (x2 + (1 : Int32))), (0, .ref (pB P + x0)), (1, .int x1)]) hx hb dX7_keepAbove_68 hl (k := 2) rfl rfl (by decide) rfl (fun ls hl => ?_)
      refine lv_goto (pc := 71) (tgt := 16) hx hb dX7_keepAbove_71 (by decide) ?_
      exact hK16 _ _ _ _ h H locs ls hM (lv_sub hl [1, 2, 0] rfl)
set_option maxHeartbeats 4000000 in
set_option maxRecDepth 100000 in
theorem wLX7_keepAbove_16 {p : Program} {l : Launch} {e : Env} {s : State} {m : MethodId} {args : Array Value} {below : List Frame} {meth : Method} {c : Code} {P : PT} {N : Nat}  {M9 : Mm} (hX : Cy p s m args c meth cX7_keepAbove 3 RX7 "keepAbove" none P)   : ∀ (n : Nat) (M : Mm) (x0 : Nat) (x1 : Int32) (x2 : Int32) , LX7_keepAbove_16 N n M x0 x1 x2 = some M9 → Wq p l e s m args below meth c 2 0 none M9 3 P 0 16 [(0, .ref (pB P + x0)), (1, .int x1), (2, .int x2)] [] M := by
  intro n
  induction n with
  | zero => intro M x0 x1 x2 h; cases h
  | succ n ih => intro M x0 x1 x2 h; exact wBX7_keepAbove_16 hX ih M x0 x1 x2 h
set_option maxHeartbeats 4000000 in
set_option maxRecDepth 100000 in
theorem wX7_keepAbove {p : Program} {l : Launch} {e : Env} {s : State} {m : MethodId} {args : Array Value} {below : List Frame} {meth : Method} {c : Code} {P : PT} {N : Nat}  {M9 : Mm} (hX : Cy p s m args c meth cX7_keepAbove 3 RX7 "keepAbove" none P)  (M : Mm) (a0 : Nat) (a1 : Int32) (h : fX7_keepAbove N M a0 a1 = some M9) : Wq p l e s m args below meth c 2 0 none M9 3 P 0 0 [(0, .ref (pB P + a0)), (1, .int a1)] [] M := by
  unfold fX7_keepAbove at h
  obtain ⟨_, _, h⟩ := ob h
  have hX0 := hX
  obtain ⟨X, hr, hlk, hnm⟩ := hX0
  have hx := X.1.1
  have hb := X.1.2.1
  intro H locs ls hM hl
  refine lv_aload_n (pc := 0) hx hb dX7_keepAbove_0 rfl (lv_at hl 0 rfl) ?_
  obtain ⟨q1, e2, h⟩ := ob h
  refine bz_getQ (pc := 1) X hM fl_RX7_29 e2 dX7_keepAbove_1 ?_
  obtain ⟨M4, e3, h⟩ := ob h
  obtain ⟨fs5, hb6⟩ := (rX3_clear e3)
  refine bz_callV0 (pc := 4) (As := []) (rest := []) X hM hl.1 k_RX7_38 (ctX3_clear l e3) rfl hb6 rfl rfl ⟨(Nat.le_of_ble_eq_true rfl), (Nat.le_of_ble_eq_true rfl)⟩ (Nat.le_of_ble_eq_true rfl) ⟨(Nat.le_of_ble_eq_true rfl), (Nat.le_of_ble_eq_true rfl)⟩ dX7_keepAbove_4 (fun H locs hM => ?_)
  refine lv_aload_n (pc := 7) hx hb dX7_keepAbove_7 rfl (lv_at hl 0 rfl) ?_
  obtain ⟨q7, e8, h⟩ := ob h
  refine bz_getQ (pc := 8) X hM fl_RX7_32 e8 dX7_keepAbove_8 ?_
  obtain ⟨M10, e9, h⟩ := ob h
  obtain ⟨fs11, hb12⟩ := (rX3_clear e9)
  refine bz_callV0 (pc := 11) (As := []) (rest := []) X hM hl.1 k_RX7_38 (ctX3_clear l e9) rfl hb12 rfl rfl ⟨(Nat.le_of_ble_eq_true rfl), (Nat.le_of_ble_eq_true rfl)⟩ (Nat.le_of_ble_eq_true rfl) ⟨(Nat.le_of_ble_eq_true rfl), (Nat.le_of_ble_eq_true rfl)⟩ dX7_keepAbove_11 (fun H locs hM => ?_)
  refine lv_iconst (pc := 14) (v := (0 : Int32)) hx hb dX7_keepAbove_14 (by decide) ?_
  refine lv_istore_n (pc := 15) (lv' := [(2, .int (0 : Int32)), (0, .ref (pB P + a0)), (1, .int a1)]) hx hb dX7_keepAbove_15 rfl hl (by decide) rfl (fun ls hl => ?_)
  exact wLX7_keepAbove_16 hX _ _ _ _ _ h H locs ls hM (lv_sub hl [1, 2, 0] rfl)
theorem rX7_keepAbove {N : Nat} {M : Mm} {a0 : Nat} {a1 : Int32} {r9 : Mm} (h : fX7_keepAbove N M a0 a1 = some r9) : ∃ fs, M[a0]? = some (.inr (7, fs)) := by
  unfold fX7_keepAbove at h
  obtain ⟨_, e1, _⟩ := ob h
  exact gC_spec e1
theorem ctX7_keepAbove (l : Launch) {P : PT} {N : Nat} {M : Mm} {a0 : Nat} {a1 : Int32} {M9 : Mm} (h : fX7_keepAbove N M a0 a1 = some M9) : Ct l yX7_keepAbove cX7_keepAbove 3 none 2 0 P [.ref (pB P + a0), .int a1] M none M9 :=
  Ct.mk (by decide +kernel) (Nat.le_of_ble_eq_true rfl) (fun p e s m args below meth c hX => wX7_keepAbove hX M a0 a1 h)
set_option maxHeartbeats 4000000 in
set_option maxRecDepth 100000 in
theorem wX1_drawLine {p : Program} {l : Launch} {e : Env} {s : State} {m : MethodId} {args : Array Value} {below : List Frame} {meth : Method} {c : Code} {P : PT} {N : Nat}  {M9 : Mm} (hX : Cy p s m args c meth cX1_drawLine 2 RX1 "drawLine" none P)  (M : Mm) (a0 : Nat) (a1 : Int32) (h : fX1_drawLine N M a0 a1 = some M9) : Wq p l e s m args below meth c 3 0 none M9 2 P 0 0 [(0, .ref (pB P + a0)), (1, .int a1)] [] M := by
  unfold fX1_drawLine at h
  obtain ⟨_, _, h⟩ := ob h
  have hX0 := hX
  obtain ⟨X, hr, hlk, hnm⟩ := hX0
  have hx := X.1.1
  have hb := X.1.2.1
  intro H locs ls hM hl
  refine lv_aload_n (pc := 0) hx hb dX1_drawLine_0 rfl (lv_at hl 0 rfl) ?_
  obtain ⟨q1, e2, h⟩ := ob h
  refine bz_getQ (pc := 1) X hM fl_RX1_12 e2 dX1_drawLine_1 ?_
  refine lv_iload_n (pc := 4) hx hb dX1_drawLine_4 rfl (lv_at hl 1 rfl) ?_
  obtain ⟨M4, e3, h⟩ := ob h
  obtain ⟨fs5, hb6⟩ := (rX7_keepAbove e3)
  refine bz_callV0 (pc := 5) (As := [.int a1]) (rest := []) X hM hl.1 k_RX1_37 (ctX7_keepAbove l e3) rfl hb6 rfl rfl ⟨(Nat.le_of_ble_eq_true rfl), (Nat.le_of_ble_eq_true rfl)⟩ (Nat.le_of_ble_eq_true rfl) ⟨(Nat.le_of_ble_eq_true rfl), (Nat.le_of_ble_eq_true rfl)⟩ dX1_drawLine_5 (fun H locs hM => ?_)
  refine lv_aload_n (pc := 8) hx hb dX1_drawLine_8 rfl (lv_at hl 0 rfl) ?_
  obtain ⟨q7, e8, h⟩ := ob h
  refine bz_getQ (pc := 9) X hM fl_RX1_18 e8 dX1_drawLine_9 ?_
  refine lv_iload_n (pc := 12) hx hb dX1_drawLine_12 rfl (lv_at hl 1 rfl) ?_
  obtain ⟨M10, e9, h⟩ := ob h
  obtain ⟨fs11, hb12⟩ := (rX7_keepAbove e9)
  refine bz_callV0 (pc := 13) (As := [.int a1]) (rest := []) X hM hl.1 k_RX1_37 (ctX7_keepAbove l e9) rfl hb12 rfl rfl ⟨(Nat.le_of_ble_eq_true rfl), (Nat.le_of_ble_eq_true rfl)⟩ (Nat.le_of_ble_eq_true rfl) ⟨(Nat.le_of_ble_eq_true rfl), (Nat.le_of_ble_eq_true rfl)⟩ dX1_drawLine_13 (fun H locs hM => ?_)
  obtain rfl := so1 h
  exact bz_vret (pc := 16) X hM hr hlk dX1_drawLine_16 (Nat.le_of_ble_eq_true rfl) (Nat.le_of_ble_eq_true rfl)
theorem rX1_drawLine {N : Nat} {M : Mm} {a0 : Nat} {a1 : Int32} {r9 : Mm} (h : fX1_drawLine N M a0 a1 = some r9) : ∃ fs, M[a0]? = some (.inr (1, fs)) := by
  unfold fX1_drawLine at h
  obtain ⟨_, e1, _⟩ := ob h
  exact gC_spec e1
theorem ctX1_drawLine (l : Launch) {P : PT} {N : Nat} {M : Mm} {a0 : Nat} {a1 : Int32} {M9 : Mm} (h : fX1_drawLine N M a0 a1 = some M9) : Ct l yX1_drawLine cX1_drawLine 2 none 3 0 P [.ref (pB P + a0), .int a1] M none M9 :=
  Ct.mk (by decide +kernel) (Nat.le_of_ble_eq_true rfl) (fun p e s m args below meth c hX => wX1_drawLine hX M a0 a1 h)
set_option maxHeartbeats 4000000 in
set_option maxRecDepth 100000 in
theorem wjX1_meeting_80 {p : Program} {l : Launch} {e : Env} {s : State} {m : MethodId} {args : Array Value} {below : List Frame} {meth : Method} {c : Code} {P : PT} {N : Nat} {K21 : Mm → Nat → Int32 → Int32 → Nat → Int32 → Int32 → Option (Int32 × Mm)}  {r9 : Int32} {M9 : Mm} (hX : Cy p s m args c meth cX1_meeting 7 RX1 "meeting" (some .int) P)  (hK21 : ∀ (M : Mm) (x0 : Nat) (x1 : Int32) (x2 : Int32) (x3 : Nat) (x4 : Int32) (x5 : Int32), K21 M x0 x1 x2 x3 x4 x5 = some (r9, M9) → Wq p l e s m args below meth c 1 0 (some (.int r9)) M9 7 P 0 21 [(0, .ref (pB P + x0)), (1, .int x1), (2, .int x2), (3, .ref (pB P + x3)), (4, .int x4), (5, .int x5)] [] M) (M : Mm) (x0 : Nat) (x1 : Int32) (x2 : Int32) (x3 : Nat) (x4 : Int32) (x5 : Int32) (x6 : Int32)  (h : jX1_meeting_80 N K21 M x0 x1 x2 x3 x4 x5 x6 = some (r9, M9)) : Wq p l e s m args below meth c 1 0 (some (.int r9)) M9 7 P 0 80 [(0, .ref (pB P + x0)), (1, .int x1), (2, .int x2), (3, .ref (pB P + x3)), (4, .int x4), (5, .int x5), (6, .int x6)] [] M := by
  unfold jX1_meeting_80 at h
  have hX0 := hX
  obtain ⟨X, hr, hlk, hnm⟩ := hX0
  have hx := X.1.1
  have hb := X.1.2.1
  intro H locs ls hM hl
  refine lv_iload (pc := 80) hx hb dX1_meeting_80 (lv_at hl 4 rfl) ?_
  refine lv_aload_n (pc := 82) hx hb dX1_meeting_82 rfl (lv_at hl 3 rfl) ?_
  obtain ⟨v2, e1, h⟩ := ob h
  obtain ⟨fs3, hb4⟩ := (rX3_size e1)
  refine bz_callV1 (pc := 83) (As := []) (rest := [.int x4]) X hM hl.1 k_RX1_46 (ctX3_size l e1) rfl hb4 rfl rfl ⟨(Nat.le_of_ble_eq_true rfl), (Nat.le_of_ble_eq_true rfl)⟩ (Nat.le_of_ble_eq_true rfl) ⟨(Nat.le_of_ble_eq_true rfl), (Nat.le_of_ble_eq_true rfl)⟩ dX1_meeting_83 (fun H locs hM => ?_)
  refine lv_icmp_ge (pc := 86) (tgt := 122) hx hb dX1_meeting_86 (by decide) (fun hc => ?_) (fun hc => ?_)
  · have h := if_t hc h
    refine lv_iinc (pc := 122) (v := (x5 + (1 : Int32))) (lv' := [(5, .int (x5 + (1 : Int32))), (0, .ref (pB P + x0)), (1, .int x1), (2, .int x2), (3, .ref (pB P + x3)), (4, .int x4), (6, .int x6)]) hx hb dX1_meeting_122 hl (k := 5) rfl rfl (by decide) rfl (fun ls hl => ?_)
    refine lv_goto (pc := 125) (tgt := 21) hx hb dX1_meeting_125 (by decide) ?_
    exact hK21 _ _ _ _ _ _ _ h H locs ls hM (lv_sub hl [1, 2, 3, 4, 5, 0] rfl)
  · have h := if_f hc h
    refine lv_aload_n (pc := 89) hx hb dX1_meeting_89 rfl (lv_at hl 3 rfl) ?_
    refine lv_iload (pc := 90) hx hb dX1_meeting_90 (lv_at hl 4 rfl) ?_
    obtain ⟨v6, e5, h⟩ := ob h
    obtain ⟨fs7, hb8⟩ := (rX3_at e5)
    refine bz_callV1 (pc := 92) (As := [.int x4]) (rest := []) X hM hl.1 k_RX1_50 (ctX3_at l e5) rfl hb8 rfl rfl ⟨(Nat.le_of_ble_eq_true rfl), (Nat.le_of_ble_eq_true rfl)⟩ (Nat.le_of_ble_eq_true rfl) ⟨(Nat.le_of_ble_eq_true rfl), (Nat.le_of_ble_eq_true rfl)⟩ dX1_meeting_92 (fun H locs hM => ?_)
    refine lv_iload (pc := 95) hx hb dX1_meeting_95 (lv_at hl 6 rfl) ?_
    refine lv_iload_n (pc := 97) hx hb dX1_meeting_97 rfl (lv_at hl 1 rfl) ?_
    refine lv_iadd (pc := 98) hx hb dX1_meeting_98 ?_
    refine lv_icmp_gt (pc := 99) (tgt := 122) hx hb dX1_meeting_99 (by decide) (fun hc => ?_) (fun hc => ?_)
    · have h := if_t hc h
      refine lv_iinc (pc := 122) (v := (x5 + (1 : Int32))) (lv' := [(5, .int (x5 + (1 : Int32))), (0, .ref (pB P + x0)), (1, .int x1), (2, .int x2), (3, .ref (pB P + x3)), (4, .int x4), (6, .int x6)]) hx hb dX1_meeting_122 hl (k := 5) rfl rfl (by decide) rfl (fun ls hl => ?_)
      refine lv_goto (pc := 125) (tgt := 21) hx hb dX1_meeting_125 (by decide) ?_
      exact hK21 _ _ _ _ _ _ _ h H locs ls hM (lv_sub hl [1, 2, 3, 4, 5, 0] rfl)
    · have h := if_f hc h
      refine lv_aload_n (pc := 102) hx hb dX1_meeting_102 rfl (lv_at hl 0 rfl) ?_
      obtain ⟨q9, e10, h⟩ := ob h
      refine bz_getQ (pc := 103) X hM fl_RX1_26 e10 dX1_meeting_103 ?_
      refine lv_aload_n (pc := 106) hx hb dX1_meeting_106 rfl (lv_at hl 0 rfl) ?_
      obtain ⟨q11, e12, h⟩ := ob h
      refine bz_getQ (pc := 107) X hM fl_RX1_12 e12 dX1_meeting_107 ?_
      obtain ⟨q13, e14, h⟩ := ob h
      refine bz_getQ (pc := 110) X hM fl_RX1_54 e14 dX1_meeting_110 ?_
      refine lv_iload (pc := 113) hx hb dX1_meeting_113 (lv_at hl 5 rfl) ?_
      obtain ⟨v16, e15, h⟩ := ob h
      obtain ⟨fs17, hb18⟩ := (rX3_at e15)
      refine bz_callV1 (pc := 115) (As := [.int x5]) (rest := [.ref (pB P + q9)]) X hM hl.1 k_RX1_50 (ctX3_at l e15) rfl hb18 rfl rfl ⟨(Nat.le_of_ble_eq_true rfl), (Nat.le_of_ble_eq_true rfl)⟩ (Nat.le_of_ble_eq_true rfl) ⟨(Nat.le_of_ble_eq_true rfl), (Nat.le_of_ble_eq_true rfl)⟩ dX1_meeting_115 (fun H locs hM => ?_)
      obtain ⟨v20, M21, e19, h⟩ := ob2 h
      obtain ⟨fs22, hb23⟩ := (rX3_add e19)
      refine bz_callV1 (pc := 118) (As := [.int v16]) (rest := []) X hM hl.1 k_RX1_57 (ctX3_add l e19) rfl hb23 rfl rfl ⟨(Nat.le_of_ble_eq_true rfl), (Nat.le_of_ble_eq_true rfl)⟩ (Nat.le_of_ble_eq_true rfl) ⟨(Nat.le_of_ble_eq_true rfl), (Nat.le_of_ble_eq_true rfl)⟩ dX1_meeting_118 (fun H locs hM => ?_)
      refine lv_pop (pc := 121) hx hb dX1_meeting_121 rfl ?_
      refine lv_iinc (pc := 122) (v := (x5 + (1 : Int32))) (lv' := [(5, .int (x5 + (1 : Int32))), (0, .ref (pB P + x0)), (1, .int x1), (2, .int x2), (3, .ref (pB P + x3)), (4, .int x4), (6, .int x6)]) hx hb dX1_meeting_122 hl (k := 5) rfl rfl (by decide) rfl (fun ls hl => ?_)
      refine lv_goto (pc := 125) (tgt := 21) hx hb dX1_meeting_125 (by decide) ?_
      exact hK21 _ _ _ _ _ _ _ h H locs ls hM (lv_sub hl [1, 2, 3, 4, 5, 0] rfl)
set_option maxHeartbeats 4000000 in
set_option maxRecDepth 100000 in
theorem wBX1_meeting_52 {p : Program} {l : Launch} {e : Env} {s : State} {m : MethodId} {args : Array Value} {below : List Frame} {meth : Method} {c : Code} {P : PT} {N : Nat} {K21 : Mm → Nat → Int32 → Int32 → Nat → Int32 → Int32 → Option (Int32 × Mm)} {K52 : Mm → Nat → Int32 → Int32 → Nat → Int32 → Int32 → Int32 → Option (Int32 × Mm)}  {r9 : Int32} {M9 : Mm} (hX : Cy p s m args c meth cX1_meeting 7 RX1 "meeting" (some .int) P)  (hK21 : ∀ (M : Mm) (x0 : Nat) (x1 : Int32) (x2 : Int32) (x3 : Nat) (x4 : Int32) (x5 : Int32), K21 M x0 x1 x2 x3 x4 x5 = some (r9, M9) → Wq p l e s m args below meth c 1 0 (some (.int r9)) M9 7 P 0 21 [(0, .ref (pB P + x0)), (1, .int x1), (2, .int x2), (3, .ref (pB P + x3)), (4, .int x4), (5, .int x5)] [] M) (hK52 : ∀ (M : Mm) (x0 : Nat) (x1 : Int32) (x2 : Int32) (x3 : Nat) (x4 : Int32) (x5 : Int32) (x6 : Int32), K52 M x0 x1 x2 x3 x4 x5 x6 = some (r9, M9) → Wq p l e s m args below meth c 1 0 (some (.int r9)) M9 7 P 0 52 [(0, .ref (pB P + x0)), (1, .int x1), (2, .int x2), (3, .ref (pB P + x3)), (4, .int x4), (5, .int x5), (6, .int x6)] [] M) (M : Mm) (x0 : Nat) (x1 : Int32) (x2 : Int32) (x3 : Nat) (x4 : Int32) (x5 : Int32) (x6 : Int32)  (h : BX1_meeting_52 N K21 K52 M x0 x1 x2 x3 x4 x5 x6 = some (r9, M9)) : Wq p l e s m args below meth c 1 0 (some (.int r9)) M9 7 P 0 52 [(0, .ref (pB P + x0)), (1, .int x1), (2, .int x2), (3, .ref (pB P + x3)), (4, .int x4), (5, .int x5), (6, .int x6)] [] M := by
  unfold BX1_meeting_52 at h
  have hX0 := hX
  obtain ⟨X, hr, hlk, hnm⟩ := hX0
  have hx := X.1.1
  have hb := X.1.2.1
  intro H locs ls hM hl
  refine lv_iload (pc := 52) hx hb dX1_meeting_52 (lv_at hl 4 rfl) ?_
  refine lv_aload_n (pc := 54) hx hb dX1_meeting_54 rfl (lv_at hl 3 rfl) ?_
  obtain ⟨v2, e1, h⟩ := ob h
  obtain ⟨fs3, hb4⟩ := (rX3_size e1)
  refine bz_callV1 (pc := 55) (As := []) (rest := [.int x4]) X hM hl.1 k_RX1_46 (ctX3_size l e1) rfl hb4 rfl rfl ⟨(Nat.le_of_ble_eq_true rfl), (Nat.le_of_ble_eq_true rfl)⟩ (Nat.le_of_ble_eq_true rfl) ⟨(Nat.le_of_ble_eq_true rfl), (Nat.le_of_ble_eq_true rfl)⟩ dX1_meeting_55 (fun H locs hM => ?_)
  refine lv_icmp_ge (pc := 58) (tgt := 80) hx hb dX1_meeting_58 (by decide) (fun hc => ?_) (fun hc => ?_)
  · have h := if_t hc h
    exact wjX1_meeting_80 hX hK21 _ _ _ _ _ _ _ _ h H locs ls hM (lv_sub hl [0, 1, 2, 3, 4, 5, 6] rfl)
  · have h := if_f hc h
    refine lv_aload_n (pc := 61) hx hb dX1_meeting_61 rfl (lv_at hl 3 rfl) ?_
    refine lv_iload (pc := 62) hx hb dX1_meeting_62 (lv_at hl 4 rfl) ?_
    obtain ⟨v6, e5, h⟩ := ob h
    obtain ⟨fs7, hb8⟩ := (rX3_at e5)
    refine bz_callV1 (pc := 64) (As := [.int x4]) (rest := []) X hM hl.1 k_RX1_50 (ctX3_at l e5) rfl hb8 rfl rfl ⟨(Nat.le_of_ble_eq_true rfl), (Nat.le_of_ble_eq_true rfl)⟩ (Nat.le_of_ble_eq_true rfl) ⟨(Nat.le_of_ble_eq_true rfl), (Nat.le_of_ble_eq_true rfl)⟩ dX1_meeting_64 (fun H locs hM => ?_)
    refine lv_iload (pc := 67) hx hb dX1_meeting_67 (lv_at hl 6 rfl) ?_
    refine lv_iload_n (pc := 69) hx hb dX1_meeting_69 rfl (lv_at hl 1 rfl) ?_
    refine lv_isub (pc := 70) hx hb dX1_meeting_70 ?_
    refine lv_icmp_ge (pc := 71) (tgt := 80) hx hb dX1_meeting_71 (by decide) (fun hc => ?_) (fun hc => ?_)
    · have h := if_t hc h
      exact wjX1_meeting_80 hX hK21 _ _ _ _ _ _ _ _ h H locs ls hM (lv_sub hl [0, 1, 2, 3, 4, 5, 6] rfl)
    · have h := if_f hc h
      refine lv_iinc (pc := 74) (v := (x4 + (1 : Int32))) (lv' := [(4, .int (x4 + (1 : Int32))), (0, .ref (pB P + x0)), (1, .int x1), (2, .int x2), (3, .ref (pB P + x3)), (5, .int x5), (6, .int x6)]) hx hb dX1_meeting_74 hl (k := 4) rfl rfl (by decide) rfl (fun ls hl => ?_)
      refine lv_goto (pc := 77) (tgt := 52) hx hb dX1_meeting_77 (by decide) ?_
      exact hK52 _ _ _ _ _ _ _ _ h H locs ls hM (lv_sub hl [1, 2, 3, 4, 0, 5, 6] rfl)
set_option maxHeartbeats 4000000 in
set_option maxRecDepth 100000 in
theorem wLX1_meeting_52 {p : Program} {l : Launch} {e : Env} {s : State} {m : MethodId} {args : Array Value} {below : List Frame} {meth : Method} {c : Code} {P : PT} {N : Nat} {K21 : Mm → Nat → Int32 → Int32 → Nat → Int32 → Int32 → Option (Int32 × Mm)}  {r9 : Int32} {M9 : Mm} (hX : Cy p s m args c meth cX1_meeting 7 RX1 "meeting" (some .int) P)  (hK21 : ∀ (M : Mm) (x0 : Nat) (x1 : Int32) (x2 : Int32) (x3 : Nat) (x4 : Int32) (x5 : Int32), K21 M x0 x1 x2 x3 x4 x5 = some (r9, M9) → Wq p l e s m args below meth c 1 0 (some (.int r9)) M9 7 P 0 21 [(0, .ref (pB P + x0)), (1, .int x1), (2, .int x2), (3, .ref (pB P + x3)), (4, .int x4), (5, .int x5)] [] M) : ∀ (n : Nat) (M : Mm) (x0 : Nat) (x1 : Int32) (x2 : Int32) (x3 : Nat) (x4 : Int32) (x5 : Int32) (x6 : Int32) , LX1_meeting_52 N K21 n M x0 x1 x2 x3 x4 x5 x6 = some (r9, M9) → Wq p l e s m args below meth c 1 0 (some (.int r9)) M9 7 P 0 52 [(0, .ref (pB P + x0)), (1, .int x1), (2, .int x2), (3, .ref (pB P + x3)), (4, .int x4), (5, .int x5), (6, .int x6)] [] M := by
  intro n
  induction n with
  | zero => intro M x0 x1 x2 x3 x4 x5 x6 h; cases h
  | succ n ih => intro M x0 x1 x2 x3 x4 x5 x6 h; exact wBX1_meeting_52 hX hK21 ih M x0 x1 x2 x3 x4 x5 x6 h
set_option maxHeartbeats 4000000 in
set_option maxRecDepth 100000 in
theorem wBX1_meeting_21 {p : Program} {l : Launch} {e : Env} {s : State} {m : MethodId} {args : Array Value} {below : List Frame} {meth : Method} {c : Code} {P : PT} {N : Nat} {K21 : Mm → Nat → Int32 → Int32 → Nat → Int32 → Int32 → Option (Int32 × Mm)}  {r9 : Int32} {M9 : Mm} (hX : Cy p s m args c meth cX1_meeting 7 RX1 "meeting" (some .int) P)  (hK21 : ∀ (M : Mm) (x0 : Nat) (x1 : Int32) (x2 : Int32) (x3 : Nat) (x4 : Int32) (x5 : Int32), K21 M x0 x1 x2 x3 x4 x5 = some (r9, M9) → Wq p l e s m args below meth c 1 0 (some (.int r9)) M9 7 P 0 21 [(0, .ref (pB P + x0)), (1, .int x1), (2, .int x2), (3, .ref (pB P + x3)), (4, .int x4), (5, .int x5)] [] M) (M : Mm) (x0 : Nat) (x1 : Int32) (x2 : Int32) (x3 : Nat) (x4 : Int32) (x5 : Int32)  (h : BX1_meeting_21 N K21 M x0 x1 x2 x3 x4 x5 = some (r9, M9)) : Wq p l e s m args below meth c 1 0 (some (.int r9)) M9 7 P 0 21 [(0, .ref (pB P + x0)), (1, .int x1), (2, .int x2), (3, .ref (pB P + x3)), (4, .int x4), (5, .int x5)] [] M := by
  unfold BX1_meeting_21 at h
  have hX0 := hX
  obtain ⟨X, hr, hlk, hnm⟩ := hX0
  have hx := X.1.1
  have hb := X.1.2.1
  intro H locs ls hM hl
  refine lv_iload (pc := 21) hx hb dX1_meeting_21 (lv_at hl 5 rfl) ?_
  refine lv_aload_n (pc := 23) hx hb dX1_meeting_23 rfl (lv_at hl 0 rfl) ?_
  obtain ⟨q1, e2, h⟩ := ob h
  refine bz_getQ (pc := 24) X hM fl_RX1_12 e2 dX1_meeting_24 ?_
  obtain ⟨q3, e4, h⟩ := ob h
  refine bz_getQ (pc := 27) X hM fl_RX1_40 e4 dX1_meeting_27 ?_
  obtain ⟨v6, e5, h⟩ := ob h
  obtain ⟨fs7, hb8⟩ := (rX3_size e5)
  refine bz_callV1 (pc := 30) (As := []) (rest := [.int x5]) X hM hl.1 k_RX1_46 (ctX3_size l e5) rfl hb8 rfl rfl ⟨(Nat.le_of_ble_eq_true rfl), (Nat.le_of_ble_eq_true rfl)⟩ (Nat.le_of_ble_eq_true rfl) ⟨(Nat.le_of_ble_eq_true rfl), (Nat.le_of_ble_eq_true rfl)⟩ dX1_meeting_30 (fun H locs hM => ?_)
  refine lv_icmp_ge (pc := 33) (tgt := 128) hx hb dX1_meeting_33 (by decide) (fun hc => ?_) (fun hc => ?_)
  · have h := if_t hc h
    refine lv_aload_n (pc := 128) hx hb dX1_meeting_128 rfl (lv_at hl 0 rfl) ?_
    obtain ⟨q9, e10, h⟩ := ob h
    refine bz_getQ (pc := 129) X hM fl_RX1_26 e10 dX1_meeting_129 ?_
    obtain ⟨v12, e11, h⟩ := ob h
    obtain ⟨fs13, hb14⟩ := (rX3_size e11)
    refine bz_callV1 (pc := 132) (As := []) (rest := []) X hM hl.1 k_RX1_46 (ctX3_size l e11) rfl hb14 rfl rfl ⟨(Nat.le_of_ble_eq_true rfl), (Nat.le_of_ble_eq_true rfl)⟩ (Nat.le_of_ble_eq_true rfl) ⟨(Nat.le_of_ble_eq_true rfl), (Nat.le_of_ble_eq_true rfl)⟩ dX1_meeting_132 (fun H locs hM => ?_)
    obtain ⟨rfl, rfl⟩ := so2 h
    exact bz_iret (pc := 135) X hM hr hlk dX1_meeting_135 (Nat.le_of_ble_eq_true rfl) (Nat.le_of_ble_eq_true rfl)
  · have h := if_f hc h
    refine lv_aload_n (pc := 36) hx hb dX1_meeting_36 rfl (lv_at hl 0 rfl) ?_
    obtain ⟨q15, e16, h⟩ := ob h
    refine bz_getQ (pc := 37) X hM fl_RX1_12 e16 dX1_meeting_37 ?_
    obtain ⟨q17, e18, h⟩ := ob h
    refine bz_getQ (pc := 40) X hM fl_RX1_40 e18 dX1_meeting_40 ?_
    refine lv_iload (pc := 43) hx hb dX1_meeting_43 (lv_at hl 5 rfl) ?_
    obtain ⟨v20, e19, h⟩ := ob h
    obtain ⟨fs21, hb22⟩ := (rX3_at e19)
    refine bz_callV1 (pc := 45) (As := [.int x5]) (rest := []) X hM hl.1 k_RX1_50 (ctX3_at l e19) rfl hb22 rfl rfl ⟨(Nat.le_of_ble_eq_true rfl), (Nat.le_of_ble_eq_true rfl)⟩ (Nat.le_of_ble_eq_true rfl) ⟨(Nat.le_of_ble_eq_true rfl), (Nat.le_of_ble_eq_true rfl)⟩ dX1_meeting_45 (fun H locs hM => ?_)
    refine lv_iload_n (pc := 48) hx hb dX1_meeting_48 rfl (lv_at hl 2 rfl) ?_
    refine lv_isub (pc := 49) hx hb dX1_meeting_49 ?_
    refine lv_istore (pc := 50) (lv' := [(6, .int (v20 - x2)), (0, .ref (pB P + x0)), (1, .int x1), (2, .int x2), (3, .ref (pB P + x3)), (4, .int x4), (5, .int x5)]) hx hb dX1_meeting_50 hl (by decide) rfl (fun ls hl => ?_)
    exact wLX1_meeting_52 hX hK21 _ _ _ _ _ _ _ _ _ h H locs ls hM (lv_sub hl [1, 2, 3, 4, 5, 6, 0] rfl)
set_option maxHeartbeats 4000000 in
set_option maxRecDepth 100000 in
theorem wLX1_meeting_21 {p : Program} {l : Launch} {e : Env} {s : State} {m : MethodId} {args : Array Value} {below : List Frame} {meth : Method} {c : Code} {P : PT} {N : Nat}  {r9 : Int32} {M9 : Mm} (hX : Cy p s m args c meth cX1_meeting 7 RX1 "meeting" (some .int) P)   : ∀ (n : Nat) (M : Mm) (x0 : Nat) (x1 : Int32) (x2 : Int32) (x3 : Nat) (x4 : Int32) (x5 : Int32) , LX1_meeting_21 N n M x0 x1 x2 x3 x4 x5 = some (r9, M9) → Wq p l e s m args below meth c 1 0 (some (.int r9)) M9 7 P 0 21 [(0, .ref (pB P + x0)), (1, .int x1), (2, .int x2), (3, .ref (pB P + x3)), (4, .int x4), (5, .int x5)] [] M := by
  intro n
  induction n with
  | zero => intro M x0 x1 x2 x3 x4 x5 h; cases h
  | succ n ih => intro M x0 x1 x2 x3 x4 x5 h; exact wBX1_meeting_21 hX ih M x0 x1 x2 x3 x4 x5 h
set_option maxHeartbeats 4000000 in
set_option maxRecDepth 100000 in
theorem wX1_meeting {p : Program} {l : Launch} {e : Env} {s : State} {m : MethodId} {args : Array Value} {below : List Frame} {meth : Method} {c : Code} {P : PT} {N : Nat}  {r9 : Int32} {M9 : Mm} (hX : Cy p s m args c meth cX1_meeting 7 RX1 "meeting" (some .int) P)  (M : Mm) (a0 : Nat) (a1 : Int32) (a2 : Int32) (h : fX1_meeting N M a0 a1 a2 = some (r9, M9)) : Wq p l e s m args below meth c 1 0 (some (.int r9)) M9 7 P 0 0 [(0, .ref (pB P + a0)), (1, .int a1), (2, .int a2)] [] M := by
  unfold fX1_meeting at h
  obtain ⟨_, _, h⟩ := ob h
  have hX0 := hX
  obtain ⟨X, hr, hlk, hnm⟩ := hX0
  have hx := X.1.1
  have hb := X.1.2.1
  intro H locs ls hM hl
  refine lv_aload_n (pc := 0) hx hb dX1_meeting_0 rfl (lv_at hl 0 rfl) ?_
  obtain ⟨q1, e2, h⟩ := ob h
  refine bz_getQ (pc := 1) X hM fl_RX1_18 e2 dX1_meeting_1 ?_
  obtain ⟨q3, e4, h⟩ := ob h
  refine bz_getQ (pc := 4) X hM fl_RX1_40 e4 dX1_meeting_4 ?_
  refine lv_astore_n (pc := 7) (lv' := [(3, .ref (pB P + q3)), (0, .ref (pB P + a0)), (1, .int a1), (2, .int a2)]) hx hb dX1_meeting_7 rfl hl (by decide) rfl (fun ls hl => ?_)
  refine lv_aload_n (pc := 8) hx hb dX1_meeting_8 rfl (lv_at hl 1 rfl) ?_
  obtain ⟨q5, e6, h⟩ := ob h
  refine bz_getQ (pc := 9) X hM fl_RX1_26 e6 dX1_meeting_9 ?_
  obtain ⟨M8, e7, h⟩ := ob h
  obtain ⟨fs9, hb10⟩ := (rX3_clear e7)
  refine bz_callV0 (pc := 12) (As := []) (rest := []) X hM hl.1 k_RX1_43 (ctX3_clear l e7) rfl hb10 rfl rfl ⟨(Nat.le_of_ble_eq_true rfl), (Nat.le_of_ble_eq_true rfl)⟩ (Nat.le_of_ble_eq_true rfl) ⟨(Nat.le_of_ble_eq_true rfl), (Nat.le_of_ble_eq_true rfl)⟩ dX1_meeting_12 (fun H locs hM => ?_)
  refine lv_iconst (pc := 15) (v := (0 : Int32)) hx hb dX1_meeting_15 (by decide) ?_
  refine lv_istore (pc := 16) (lv' := [(4, .int (0 : Int32)), (3, .ref (pB P + q3)), (0, .ref (pB P + a0)), (1, .int a1), (2, .int a2)]) hx hb dX1_meeting_16 hl (by decide) rfl (fun ls hl => ?_)
  refine lv_iconst (pc := 18) (v := (0 : Int32)) hx hb dX1_meeting_18 (by decide) ?_
  refine lv_istore (pc := 19) (lv' := [(5, .int (0 : Int32)), (4, .int (0 : Int32)), (3, .ref (pB P + q3)), (0, .ref (pB P + a0)), (1, .int a1), (2, .int a2)]) hx hb dX1_meeting_19 hl (by decide) rfl (fun ls hl => ?_)
  exact wLX1_meeting_21 hX _ _ _ _ _ _ _ _ h H locs ls hM (lv_sub hl [3, 4, 5, 2, 1, 0] rfl)
theorem rX1_meeting {N : Nat} {M : Mm} {a0 : Nat} {a1 : Int32} {a2 : Int32} {r9 : Int32 × Mm} (h : fX1_meeting N M a0 a1 a2 = some r9) : ∃ fs, M[a0]? = some (.inr (1, fs)) := by
  unfold fX1_meeting at h
  obtain ⟨_, e1, _⟩ := ob h
  exact gC_spec e1
theorem ctX1_meeting (l : Launch) {P : PT} {N : Nat} {M : Mm} {a0 : Nat} {a1 : Int32} {a2 : Int32} {r9 : Int32} {M9 : Mm} (h : fX1_meeting N M a0 a1 a2 = some (r9, M9)) : Ct l yX1_meeting cX1_meeting 7 (some .int) 1 0 P [.ref (pB P + a0), .int a1, .int a2] M (some (.int r9)) M9 :=
  Ct.mk (by decide +kernel) (Nat.le_of_ble_eq_true rfl) (fun p e s m args below meth c hX => wX1_meeting hX M a0 a1 a2 h)
set_option maxHeartbeats 4000000 in
set_option maxRecDepth 100000 in
theorem wjX10_meets_36 {p : Program} {l : Launch} {e : Env} {s : State} {m : MethodId} {args : Array Value} {below : List Frame} {meth : Method} {c : Code} {P : PT} {N : Nat}  {r9 : Int32} {M9 : Mm} (hX : Cy p s m args c meth cX10_meets 5 RX10 "meets" (some .int) P)   (M : Mm) (x0 : Nat)  (h : jX10_meets_36 N M x0 = some (r9, M9)) : Wq p l e s m args below meth c 6 0 (some (.int r9)) M9 5 P 0 36 [(0, .ref (pB P + x0))] [] M := by
  unfold jX10_meets_36 at h
  have hX0 := hX
  obtain ⟨X, hr, hlk, hnm⟩ := hX0
  have hx := X.1.1
  have hb := X.1.2.1
  intro H locs ls hM hl
  refine lv_aload_n (pc := 36) hx hb dX10_meets_36 rfl (lv_at hl 0 rfl) ?_
  refine lv_iconst (pc := 37) (v := (1 : Int32)) hx hb dX10_meets_37 (by decide) ?_
  obtain ⟨v2, M3, e1, h⟩ := ob2 h
  obtain ⟨fs4, hb5⟩ := (rX10_error e1)
  refine bz_callV1 (pc := 38) (As := [.int (1 : Int32)]) (rest := []) X hM hl.1 k_RX10_78 (ctX10_error l e1) rfl hb5 rfl rfl ⟨(Nat.le_of_ble_eq_true rfl), (Nat.le_of_ble_eq_true rfl)⟩ (Nat.le_of_ble_eq_true rfl) ⟨(Nat.le_of_ble_eq_true rfl), (Nat.le_of_ble_eq_true rfl)⟩ dX10_meets_38 (fun H locs hM => ?_)
  obtain ⟨rfl, rfl⟩ := so2 h
  exact bz_iret (pc := 41) X hM hr hlk dX10_meets_41 (Nat.le_of_ble_eq_true rfl) (Nat.le_of_ble_eq_true rfl)
set_option maxHeartbeats 4000000 in
set_option maxRecDepth 100000 in
theorem wX10_meets {p : Program} {l : Launch} {e : Env} {s : State} {m : MethodId} {args : Array Value} {below : List Frame} {meth : Method} {c : Code} {P : PT} {N : Nat}  {r9 : Int32} {M9 : Mm} (hX : Cy p s m args c meth cX10_meets 5 RX10 "meets" (some .int) P)  (M : Mm) (a0 : Nat) (a1 : Int32) (a2 : Int32) (a3 : Int32) (a4 : Int32) (h : fX10_meets N M a0 a1 a2 a3 a4 = some (r9, M9)) : Wq p l e s m args below meth c 6 0 (some (.int r9)) M9 5 P 0 0 [(0, .ref (pB P + a0)), (1, .int a1), (2, .int a2), (3, .int a3), (4, .int a4)] [] M := by
  unfold fX10_meets at h
  obtain ⟨_, _, h⟩ := ob h
  have hX0 := hX
  obtain ⟨X, hr, hlk, hnm⟩ := hX0
  have hx := X.1.1
  have hb := X.1.2.1
  intro H locs ls hM hl
  refine lv_aload_n (pc := 0) hx hb dX10_meets_0 rfl (lv_at hl 0 rfl) ?_
  refine lv_iload_n (pc := 1) hx hb dX10_meets_1 rfl (lv_at hl 1 rfl) ?_
  obtain ⟨v2, e1, h⟩ := ob h
  obtain ⟨fs3, hb4⟩ := (rX10_isPair e1)
  refine bz_callV1 (pc := 2) (As := [.int a1]) (rest := []) X hM hl.1 k_RX10_211 (ctX10_isPair l e1) rfl hb4 rfl rfl ⟨(Nat.le_of_ble_eq_true rfl), (Nat.le_of_ble_eq_true rfl)⟩ (Nat.le_of_ble_eq_true rfl) ⟨(Nat.le_of_ble_eq_true rfl), (Nat.le_of_ble_eq_true rfl)⟩ dX10_meets_2 (fun H locs hM => ?_)
  refine lv_if_eq (pc := 5) (tgt := 36) hx hb dX10_meets_5 (by decide) (fun hc => ?_) (fun hc => ?_)
  · have h := if_t hc h
    exact wjX10_meets_36 hX _ _ h H locs ls hM (lv_sub hl [0] rfl)
  · have h := if_f hc h
    refine lv_iload_n (pc := 8) hx hb dX10_meets_8 rfl (lv_at hl 2 rfl) ?_
    obtain ⟨v6, e5, h⟩ := ob h
    refine bz_callS1 (pc := 9) (As := [.int a2]) (rest := []) X hM hl.1 k_RX10_145 (ctX10_isLine l e5) rfl rfl ⟨(Nat.le_of_ble_eq_true rfl), (Nat.le_of_ble_eq_true rfl)⟩ (Nat.le_of_ble_eq_true rfl) ⟨(Nat.le_of_ble_eq_true rfl), (Nat.le_of_ble_eq_true rfl)⟩ dX10_meets_9 (fun H locs hM => ?_)
    refine lv_if_eq (pc := 12) (tgt := 36) hx hb dX10_meets_12 (by decide) (fun hc => ?_) (fun hc => ?_)
    · have h := if_t hc h
      exact wjX10_meets_36 hX _ _ h H locs ls hM (lv_sub hl [0] rfl)
    · have h := if_f hc h
      refine lv_iload_n (pc := 15) hx hb dX10_meets_15 rfl (lv_at hl 3 rfl) ?_
      obtain ⟨v8, e7, h⟩ := ob h
      refine bz_callS1 (pc := 16) (As := [.int a3]) (rest := []) X hM hl.1 k_RX10_214 (ctX10_isWindow l e7) rfl rfl ⟨(Nat.le_of_ble_eq_true rfl), (Nat.le_of_ble_eq_true rfl)⟩ (Nat.le_of_ble_eq_true rfl) ⟨(Nat.le_of_ble_eq_true rfl), (Nat.le_of_ble_eq_true rfl)⟩ dX10_meets_16 (fun H locs hM => ?_)
      refine lv_if_eq (pc := 19) (tgt := 36) hx hb dX10_meets_19 (by decide) (fun hc => ?_) (fun hc => ?_)
      · have h := if_t hc h
        exact wjX10_meets_36 hX _ _ h H locs ls hM (lv_sub hl [0] rfl)
      · have h := if_f hc h
        refine lv_iload (pc := 22) hx hb dX10_meets_22 (lv_at hl 4 rfl) ?_
        refine lv_sipush (pc := 24) (v := (-9999 : Int32)) hx hb dX10_meets_24 (by decide) ?_
        refine lv_sipush (pc := 27) (v := (9999 : Int32)) hx hb dX10_meets_27 (by decide) ?_
        obtain ⟨v10, e9, h⟩ := ob h
        refine bz_callS1 (pc := 30) (As := [.int a4, .int (-9999 : Int32), .int (9999 : Int32)]) (rest := []) X hM hl.1 k_RX10_74 (ctX10_within l e9) rfl rfl ⟨(Nat.le_of_ble_eq_true rfl), (Nat.le_of_ble_eq_true rfl)⟩ (Nat.le_of_ble_eq_true rfl) ⟨(Nat.le_of_ble_eq_true rfl), (Nat.le_of_ble_eq_true rfl)⟩ dX10_meets_30 (fun H locs hM => ?_)
        refine lv_if_ne (pc := 33) (tgt := 42) hx hb dX10_meets_33 (by decide) (fun hc => ?_) (fun hc => ?_)
        · have h := if_f hc h
          refine lv_aload_n (pc := 42) hx hb dX10_meets_42 rfl (lv_at hl 0 rfl) ?_
          obtain ⟨q11, e12, h⟩ := ob h
          refine bz_getQ (pc := 43) X hM fl_RX10_42 e12 dX10_meets_43 ?_
          refine lv_aload_n (pc := 46) hx hb dX10_meets_46 rfl (lv_at hl 0 rfl) ?_
          obtain ⟨q13, e14, h⟩ := ob h
          refine bz_getQ (pc := 47) X hM fl_RX10_10 e14 dX10_meets_47 ?_
          refine lv_iload_n (pc := 50) hx hb dX10_meets_50 rfl (lv_at hl 1 rfl) ?_
          obtain ⟨M16, e15, h⟩ := ob h
          obtain ⟨fs17, hb18⟩ := (rX1_hear e15)
          refine bz_callV0 (pc := 51) (As := [.ref (pB P + q13), .int a1]) (rest := []) X hM hl.1 k_RX10_217 (ctX1_hear l e15) rfl hb18 rfl rfl ⟨(Nat.le_of_ble_eq_true rfl), (Nat.le_of_ble_eq_true rfl)⟩ (Nat.le_of_ble_eq_true rfl) ⟨(Nat.le_of_ble_eq_true rfl), (Nat.le_of_ble_eq_true rfl)⟩ dX10_meets_51 (fun H locs hM => ?_)
          refine lv_aload_n (pc := 54) hx hb dX10_meets_54 rfl (lv_at hl 0 rfl) ?_
          obtain ⟨q19, e20, h⟩ := ob h
          refine bz_getQ (pc := 55) X hM fl_RX10_42 e20 dX10_meets_55 ?_
          refine lv_iload_n (pc := 58) hx hb dX10_meets_58 rfl (lv_at hl 2 rfl) ?_
          obtain ⟨M22, e21, h⟩ := ob h
          obtain ⟨fs23, hb24⟩ := (rX1_drawLine e21)
          refine bz_callV0 (pc := 59) (As := [.int a2]) (rest := []) X hM hl.1 k_RX10_218 (ctX1_drawLine l e21) rfl hb24 rfl rfl ⟨(Nat.le_of_ble_eq_true rfl), (Nat.le_of_ble_eq_true rfl)⟩ (Nat.le_of_ble_eq_true rfl) ⟨(Nat.le_of_ble_eq_true rfl), (Nat.le_of_ble_eq_true rfl)⟩ dX10_meets_59 (fun H locs hM => ?_)
          refine lv_aload_n (pc := 62) hx hb dX10_meets_62 rfl (lv_at hl 0 rfl) ?_
          obtain ⟨q25, e26, h⟩ := ob h
          refine bz_getQ (pc := 63) X hM fl_RX10_42 e26 dX10_meets_63 ?_
          refine lv_iload_n (pc := 66) hx hb dX10_meets_66 rfl (lv_at hl 3 rfl) ?_
          refine lv_iload (pc := 67) hx hb dX10_meets_67 (lv_at hl 4 rfl) ?_
          obtain ⟨v28, M29, e27, h⟩ := ob2 h
          obtain ⟨fs30, hb31⟩ := (rX1_meeting e27)
          refine bz_callV1 (pc := 69) (As := [.int a3, .int a4]) (rest := []) X hM hl.1 k_RX10_221 (ctX1_meeting l e27) rfl hb31 rfl rfl ⟨(Nat.le_of_ble_eq_true rfl), (Nat.le_of_ble_eq_true rfl)⟩ (Nat.le_of_ble_eq_true rfl) ⟨(Nat.le_of_ble_eq_true rfl), (Nat.le_of_ble_eq_true rfl)⟩ dX10_meets_69 (fun H locs hM => ?_)
          obtain ⟨rfl, rfl⟩ := so2 h
          exact bz_iret (pc := 72) X hM hr hlk dX10_meets_72 (Nat.le_of_ble_eq_true rfl) (Nat.le_of_ble_eq_true rfl)
        · have h := if_t hc h
          exact wjX10_meets_36 hX _ _ h H locs ls hM (lv_sub hl [0] rfl)
theorem rX10_meets {N : Nat} {M : Mm} {a0 : Nat} {a1 : Int32} {a2 : Int32} {a3 : Int32} {a4 : Int32} {r9 : Int32 × Mm} (h : fX10_meets N M a0 a1 a2 a3 a4 = some r9) : ∃ fs, M[a0]? = some (.inr (10, fs)) := by
  unfold fX10_meets at h
  obtain ⟨_, e1, _⟩ := ob h
  exact gC_spec e1
theorem ctX10_meets (l : Launch) {P : PT} {N : Nat} {M : Mm} {a0 : Nat} {a1 : Int32} {a2 : Int32} {a3 : Int32} {a4 : Int32} {r9 : Int32} {M9 : Mm} (h : fX10_meets N M a0 a1 a2 a3 a4 = some (r9, M9)) : Ct l yX10_meets cX10_meets 5 (some .int) 6 0 P [.ref (pB P + a0), .int a1, .int a2, .int a3, .int a4] M (some (.int r9)) M9 :=
  Ct.mk (by decide +kernel) (Nat.le_of_ble_eq_true rfl) (fun p e s m args below meth c hX => wX10_meets hX M a0 a1 a2 a3 a4 h)
set_option maxHeartbeats 4000000 in
set_option maxRecDepth 100000 in
theorem wX11_isPair {p : Program} {l : Launch} {e : Env} {s : State} {m : MethodId} {args : Array Value} {below : List Frame} {meth : Method} {c : Code} {P : PT}  {r9 : Int32} (hX : Cy p s m args c meth cX11_isPair 2 RX11 "isPair" (some .boolean) P)  (M : Mm) (a0 : Nat) (a1 : Int32) (h : fX11_isPair M a0 a1 = some r9) : Wq p l e s m args below meth c 2 0 (some (.int r9)) M 2 P 0 0 [(0, .ref (pB P + a0)), (1, .int a1)] [] M := by
  unfold fX11_isPair at h
  obtain ⟨_, _, h⟩ := ob h
  have hX0 := hX
  obtain ⟨X, hr, hlk, hnm⟩ := hX0
  have hx := X.1.1
  have hb := X.1.2.1
  intro H locs ls hM hl
  refine lv_iload_n (pc := 0) hx hb dX11_isPair_0 rfl (lv_at hl 1 rfl) ?_
  refine lv_if_lt (pc := 1) (tgt := 41) hx hb dX11_isPair_1 (by decide) (fun hc => ?_) (fun hc => ?_)
  · have h := if_t hc h
    refine lv_iconst (pc := 41) (v := (0 : Int32)) hx hb dX11_isPair_41 (by decide) ?_
    obtain rfl := so1 h
    exact bz_zret (pc := 42) X hM hr hlk (by decide) dX11_isPair_42 (Nat.le_of_ble_eq_true rfl) (Nat.le_of_ble_eq_true rfl)
  · have h := if_f hc h
    refine lv_aload_n (pc := 4) hx hb dX11_isPair_4 rfl (lv_at hl 0 rfl) ?_
    refine lv_iload_n (pc := 5) hx hb dX11_isPair_5 rfl (lv_at hl 1 rfl) ?_
    refine lv_bipush (pc := 6) (v := (10 : Int32)) hx hb dX11_isPair_6 (by decide) ?_
    refine lv_idiv (pc := 8) hx hb dX11_isPair_8 (by decide) ?_
    obtain ⟨v2, e1, h⟩ := ob h
    obtain ⟨fs3, hb4⟩ := (rX11_isBar e1)
    refine bz_callV1 (pc := 9) (As := [.int (a1 / (10 : Int32))]) (rest := []) X hM hl.1 k_RX11_65 (ctX11_isBar l e1) rfl hb4 rfl rfl ⟨(Nat.le_of_ble_eq_true rfl), (Nat.le_of_ble_eq_true rfl)⟩ (Nat.le_of_ble_eq_true rfl) ⟨(Nat.le_of_ble_eq_true rfl), (Nat.le_of_ble_eq_true rfl)⟩ dX11_isPair_9 (fun H locs hM => ?_)
    refine lv_if_eq (pc := 12) (tgt := 41) hx hb dX11_isPair_12 (by decide) (fun hc => ?_) (fun hc => ?_)
    · have h := if_t hc h
      refine lv_iconst (pc := 41) (v := (0 : Int32)) hx hb dX11_isPair_41 (by decide) ?_
      obtain rfl := so1 h
      exact bz_zret (pc := 42) X hM hr hlk (by decide) dX11_isPair_42 (Nat.le_of_ble_eq_true rfl) (Nat.le_of_ble_eq_true rfl)
    · have h := if_f hc h
      refine lv_aload_n (pc := 15) hx hb dX11_isPair_15 rfl (lv_at hl 0 rfl) ?_
      refine lv_iload_n (pc := 16) hx hb dX11_isPair_16 rfl (lv_at hl 1 rfl) ?_
      refine lv_bipush (pc := 17) (v := (10 : Int32)) hx hb dX11_isPair_17 (by decide) ?_
      refine bz_irem (pc := 19) hx hb dX11_isPair_19 (by decide) ?_
      obtain ⟨v6, e5, h⟩ := ob h
      obtain ⟨fs7, hb8⟩ := (rX11_isBar e5)
      refine bz_callV1 (pc := 20) (As := [.int (rmI a1 ((10 : Int32)))]) (rest := []) X hM hl.1 k_RX11_65 (ctX11_isBar l e5) rfl hb8 rfl rfl ⟨(Nat.le_of_ble_eq_true rfl), (Nat.le_of_ble_eq_true rfl)⟩ (Nat.le_of_ble_eq_true rfl) ⟨(Nat.le_of_ble_eq_true rfl), (Nat.le_of_ble_eq_true rfl)⟩ dX11_isPair_20 (fun H locs hM => ?_)
      refine lv_if_eq (pc := 23) (tgt := 41) hx hb dX11_isPair_23 (by decide) (fun hc => ?_) (fun hc => ?_)
      · have h := if_t hc h
        refine lv_iconst (pc := 41) (v := (0 : Int32)) hx hb dX11_isPair_41 (by decide) ?_
        obtain rfl := so1 h
        exact bz_zret (pc := 42) X hM hr hlk (by decide) dX11_isPair_42 (Nat.le_of_ble_eq_true rfl) (Nat.le_of_ble_eq_true rfl)
      · have h := if_f hc h
        refine lv_iload_n (pc := 26) hx hb dX11_isPair_26 rfl (lv_at hl 1 rfl) ?_
        refine lv_bipush (pc := 27) (v := (10 : Int32)) hx hb dX11_isPair_27 (by decide) ?_
        refine lv_idiv (pc := 29) hx hb dX11_isPair_29 (by decide) ?_
        refine lv_iload_n (pc := 30) hx hb dX11_isPair_30 rfl (lv_at hl 1 rfl) ?_
        refine lv_bipush (pc := 31) (v := (10 : Int32)) hx hb dX11_isPair_31 (by decide) ?_
        refine bz_irem (pc := 33) hx hb dX11_isPair_33 (by decide) ?_
        refine lv_icmp_eq (pc := 34) (tgt := 41) hx hb dX11_isPair_34 (by decide) (fun hc => ?_) (fun hc => ?_)
        · have h := if_t hc h
          refine lv_iconst (pc := 41) (v := (0 : Int32)) hx hb dX11_isPair_41 (by decide) ?_
          obtain rfl := so1 h
          exact bz_zret (pc := 42) X hM hr hlk (by decide) dX11_isPair_42 (Nat.le_of_ble_eq_true rfl) (Nat.le_of_ble_eq_true rfl)
        · have h := if_f hc h
          refine lv_iconst (pc := 37) (v := (1 : Int32)) hx hb dX11_isPair_37 (by decide) ?_
          refine lv_goto (pc := 38) (tgt := 42) hx hb dX11_isPair_38 (by decide) ?_
          obtain rfl := so1 h
          exact bz_zret (pc := 42) X hM hr hlk (by decide) dX11_isPair_42 (Nat.le_of_ble_eq_true rfl) (Nat.le_of_ble_eq_true rfl)
theorem rX11_isPair {M : Mm} {a0 : Nat} {a1 : Int32} {r9 : Int32} (h : fX11_isPair M a0 a1 = some r9) : ∃ fs, M[a0]? = some (.inr (11, fs)) := by
  unfold fX11_isPair at h
  obtain ⟨_, e1, _⟩ := ob h
  exact gC_spec e1
theorem ctX11_isPair (l : Launch) {P : PT} {M : Mm} {a0 : Nat} {a1 : Int32} {r9 : Int32} (h : fX11_isPair M a0 a1 = some r9) : Ct l yX11_isPair cX11_isPair 2 (some .boolean) 2 0 P [.ref (pB P + a0), .int a1] M (some (.int r9)) M :=
  Ct.mk (by decide +kernel) (Nat.le_of_ble_eq_true rfl) (fun p e s m args below meth c hX => wX11_isPair hX M a0 a1 h)
