set_option maxHeartbeats 4000000 in
set_option maxRecDepth 100000 in
theorem wX2_isNextOneOf {p : Program} {l : Launch} {e : Env} {s : State} {m : MethodId} {args : Array Value} {below : List Frame} {meth : Method} {c : Code} {P : PT} {N : Nat}  {r9 : Int32} (hX : Cy p s m args c meth cX2_isNextOneOf 2 RX2 "isNextOneOf" (some .boolean) P)  (M : Mm) (a0 : Nat) (a1 : Nat) (h : fX2_isNextOneOf N M a0 a1 = some r9) : Wq p l e s m args below meth c 4 0 (some (.int r9)) M 2 P 0 0 [(0, .ref (pB P + a0)), (1, .ref (pK P a1))] [] M := by
  unfold fX2_isNextOneOf at h
  obtain ⟨_, _, h⟩ := ob h
  have hX0 := hX
  obtain ⟨X, hr, hlk, hnm⟩ := hX0
  have hx := X.1.1
  have hb := X.1.2.1
  intro H locs ls hM hl
  refine lv_aload_n (pc := 0) hx hb dX2_isNextOneOf_0 rfl (lv_at hl 0 rfl) ?_
  obtain ⟨q1, e2, h⟩ := ob h
  refine bz_getQ (pc := 1) X hM fl_RX2_20 e2 dX2_isNextOneOf_1 ?_
  refine lv_aload_n (pc := 4) hx hb dX2_isNextOneOf_4 rfl (lv_at hl 0 rfl) ?_
  obtain ⟨v3, e4, h⟩ := ob h
  refine bz_getI (pc := 5) X hM fl_RX2_36 e4 dX2_isNextOneOf_5 ?_
  obtain ⟨v6, e5, h⟩ := ob h
  obtain ⟨fs7, hb8⟩ := (rX3_has e5)
  refine bz_callV1 (pc := 8) (As := [.int v3]) (rest := []) X hM hl.1 k_RX2_77 (ctX3_has l e5) rfl hb8 rfl rfl ⟨(Nat.le_of_ble_eq_true rfl), (Nat.le_of_ble_eq_true rfl)⟩ (Nat.le_of_ble_eq_true rfl) ⟨(Nat.le_of_ble_eq_true rfl), (Nat.le_of_ble_eq_true rfl)⟩ dX2_isNextOneOf_8 (fun H locs hM => ?_)
  refine lv_if_eq (pc := 11) (tgt := 37) hx hb dX2_isNextOneOf_11 (by decide) (fun hc => ?_) (fun hc => ?_)
  · have h := if_t hc h
    refine lv_iconst (pc := 37) (v := (0 : Int32)) hx hb dX2_isNextOneOf_37 (by decide) ?_
    obtain rfl := so1 h
    exact bz_zret (pc := 38) X hM hr hlk (by decide) dX2_isNextOneOf_38 (Nat.le_of_ble_eq_true rfl) (Nat.le_of_ble_eq_true rfl)
  · have h := if_f hc h
    refine lv_aload_n (pc := 14) hx hb dX2_isNextOneOf_14 rfl (lv_at hl 1 rfl) ?_
    refine lv_aload_n (pc := 15) hx hb dX2_isNextOneOf_15 rfl (lv_at hl 0 rfl) ?_
    obtain ⟨q9, e10, h⟩ := ob h
    refine bz_getQ (pc := 16) X hM fl_RX2_20 e10 dX2_isNextOneOf_16 ?_
    refine lv_aload_n (pc := 19) hx hb dX2_isNextOneOf_19 rfl (lv_at hl 0 rfl) ?_
    obtain ⟨v11, e12, h⟩ := ob h
    refine bz_getI (pc := 20) X hM fl_RX2_36 e12 dX2_isNextOneOf_20 ?_
    obtain ⟨v14, e13, h⟩ := ob h
    obtain ⟨fs15, hb16⟩ := (rX3_at e13)
    refine bz_callV1 (pc := 23) (As := [.int v11]) (rest := [.ref (pK P a1)]) X hM hl.1 k_RX2_60 (ctX3_at l e13) rfl hb16 rfl rfl ⟨(Nat.le_of_ble_eq_true rfl), (Nat.le_of_ble_eq_true rfl)⟩ (Nat.le_of_ble_eq_true rfl) ⟨(Nat.le_of_ble_eq_true rfl), (Nat.le_of_ble_eq_true rfl)⟩ dX2_isNextOneOf_23 (fun H locs hM => ?_)
    refine lv_i2c (pc := 26) (v := (((v14).toUInt32 % 65536).toInt32)) hx hb dX2_isNextOneOf_26 rfl ?_
    obtain ⟨q19, e20, h⟩ := ob h
    obtain ⟨v18, e17, h⟩ := ob h
    refine bz_callT1 (pc := 27) (As := [.int (((v14).toUInt32 % 65536).toInt32)]) (rest := []) X hM hl.1 k_RX2_80 e20 (ctJ0_indexOf_0f7a4 l e17) rfl rfl ⟨(Nat.le_of_ble_eq_true rfl), (Nat.le_of_ble_eq_true rfl)⟩ (Nat.le_of_ble_eq_true rfl) ⟨(Nat.le_of_ble_eq_true rfl), (Nat.le_of_ble_eq_true rfl)⟩ dX2_isNextOneOf_27 (fun H locs hM => ?_)
    refine lv_if_lt (pc := 30) (tgt := 37) hx hb dX2_isNextOneOf_30 (by decide) (fun hc => ?_) (fun hc => ?_)
    · have h := if_t hc h
      refine lv_iconst (pc := 37) (v := (0 : Int32)) hx hb dX2_isNextOneOf_37 (by decide) ?_
      obtain rfl := so1 h
      exact bz_zret (pc := 38) X hM hr hlk (by decide) dX2_isNextOneOf_38 (Nat.le_of_ble_eq_true rfl) (Nat.le_of_ble_eq_true rfl)
    · have h := if_f hc h
      refine lv_iconst (pc := 33) (v := (1 : Int32)) hx hb dX2_isNextOneOf_33 (by decide) ?_
      refine lv_goto (pc := 34) (tgt := 38) hx hb dX2_isNextOneOf_34 (by decide) ?_
      obtain rfl := so1 h
      exact bz_zret (pc := 38) X hM hr hlk (by decide) dX2_isNextOneOf_38 (Nat.le_of_ble_eq_true rfl) (Nat.le_of_ble_eq_true rfl)
theorem rX2_isNextOneOf {N : Nat} {M : Mm} {a0 : Nat} {a1 : Nat} {r9 : Int32} (h : fX2_isNextOneOf N M a0 a1 = some r9) : ∃ fs, M[a0]? = some (.inr (2, fs)) := by
  unfold fX2_isNextOneOf at h
  obtain ⟨_, e1, _⟩ := ob h
  exact gC_spec e1
theorem ctX2_isNextOneOf (l : Launch) {P : PT} {N : Nat} {M : Mm} {a0 : Nat} {a1 : Nat} {r9 : Int32} (h : fX2_isNextOneOf N M a0 a1 = some r9) : Ct l yX2_isNextOneOf cX2_isNextOneOf 2 (some .boolean) 4 0 P [.ref (pB P + a0), .ref (pK P a1)] M (some (.int r9)) M :=
  Ct.mk (by decide +kernel) (Nat.le_of_ble_eq_true rfl) (fun p e s m args below meth c hX => wX2_isNextOneOf hX M a0 a1 h)
set_option maxHeartbeats 4000000 in
set_option maxRecDepth 100000 in
theorem wjX2_readNumber_54 {p : Program} {l : Launch} {e : Env} {s : State} {m : MethodId} {args : Array Value} {below : List Frame} {meth : Method} {c : Code} {P : PT} {N : Nat}  {r9 : Int32} {M9 : Mm} (hX : Cy p s m args c meth cX2_readNumber 3 RX2 "readNumber" (some .boolean) P)   (M : Mm) (x0 : Nat) (x1 : Int32) (x2 : Int32)  (h : jX2_readNumber_54 N M x0 x1 x2 = some (r9, M9)) : Wq p l e s m args below meth c 5 0 (some (.int r9)) M9 3 P 0 54 [(0, .ref (pB P + x0)), (1, .int x1), (2, .int x2)] [] M := by
  unfold jX2_readNumber_54 at h
  have hX0 := hX
  obtain ⟨X, hr, hlk, hnm⟩ := hX0
  have hx := X.1.1
  have hb := X.1.2.1
  intro H locs ls hM hl
  refine lv_iload_n (pc := 54) hx hb dX2_readNumber_54 rfl (lv_at hl 2 rfl) ?_
  refine lv_if_ne (pc := 55) (tgt := 60) hx hb dX2_readNumber_55 (by decide) (fun hc => ?_) (fun hc => ?_)
  · have h := if_f hc h
    refine lv_aload_n (pc := 60) hx hb dX2_readNumber_60 rfl (lv_at hl 0 rfl) ?_
    obtain ⟨q1, e2, h⟩ := ob h
    refine bz_getQ (pc := 61) X hM fl_RX2_14 e2 dX2_readNumber_61 ?_
    refine lv_iload_n (pc := 64) hx hb dX2_readNumber_64 rfl (lv_at hl 1 rfl) ?_
    obtain ⟨v4, M5, e3, h⟩ := ob2 h
    obtain ⟨fs6, hb7⟩ := (rX3_add e3)
    refine bz_callV1 (pc := 65) (As := [.int x1]) (rest := []) X hM hl.1 k_RX2_64 (ctX3_add l e3) rfl hb7 rfl rfl ⟨(Nat.le_of_ble_eq_true rfl), (Nat.le_of_ble_eq_true rfl)⟩ (Nat.le_of_ble_eq_true rfl) ⟨(Nat.le_of_ble_eq_true rfl), (Nat.le_of_ble_eq_true rfl)⟩ dX2_readNumber_65 (fun H locs hM => ?_)
    refine lv_pop (pc := 68) hx hb dX2_readNumber_68 rfl ?_
    refine lv_iconst (pc := 69) (v := (1 : Int32)) hx hb dX2_readNumber_69 (by decide) ?_
    obtain ⟨rfl, rfl⟩ := so2 h
    exact bz_zret (pc := 70) X hM hr hlk (by decide) dX2_readNumber_70 (Nat.le_of_ble_eq_true rfl) (Nat.le_of_ble_eq_true rfl)
  · have h := if_t hc h
    refine lv_iconst (pc := 58) (v := (0 : Int32)) hx hb dX2_readNumber_58 (by decide) ?_
    obtain ⟨rfl, rfl⟩ := so2 h
    exact bz_zret (pc := 59) X hM hr hlk (by decide) dX2_readNumber_59 (Nat.le_of_ble_eq_true rfl) (Nat.le_of_ble_eq_true rfl)
set_option maxHeartbeats 4000000 in
set_option maxRecDepth 100000 in
theorem wBX2_readNumber_4 {p : Program} {l : Launch} {e : Env} {s : State} {m : MethodId} {args : Array Value} {below : List Frame} {meth : Method} {c : Code} {P : PT} {N : Nat} {K4 : Mm → Nat → Int32 → Int32 → Option (Int32 × Mm)}  {r9 : Int32} {M9 : Mm} (hX : Cy p s m args c meth cX2_readNumber 3 RX2 "readNumber" (some .boolean) P)  (hK4 : ∀ (M : Mm) (x0 : Nat) (x1 : Int32) (x2 : Int32), K4 M x0 x1 x2 = some (r9, M9) → Wq p l e s m args below meth c 5 0 (some (.int r9)) M9 3 P 0 4 [(0, .ref (pB P + x0)), (1, .int x1), (2, .int x2)] [] M) (M : Mm) (x0 : Nat) (x1 : Int32) (x2 : Int32)  (h : BX2_readNumber_4 N K4 M x0 x1 x2 = some (r9, M9)) : Wq p l e s m args below meth c 5 0 (some (.int r9)) M9 3 P 0 4 [(0, .ref (pB P + x0)), (1, .int x1), (2, .int x2)] [] M := by
  unfold BX2_readNumber_4 at h
  have hX0 := hX
  obtain ⟨X, hr, hlk, hnm⟩ := hX0
  have hx := X.1.1
  have hb := X.1.2.1
  intro H locs ls hM hl
  refine lv_iload_n (pc := 4) hx hb dX2_readNumber_4 rfl (lv_at hl 2 rfl) ?_
  refine lv_iconst (pc := 5) (v := (4 : Int32)) hx hb dX2_readNumber_5 (by decide) ?_
  refine lv_icmp_ge (pc := 6) (tgt := 54) hx hb dX2_readNumber_6 (by decide) (fun hc => ?_) (fun hc => ?_)
  · have h := if_t hc h
    exact wjX2_readNumber_54 hX _ _ _ _ h H locs ls hM (lv_sub hl [0, 1, 2] rfl)
  · have h := if_f hc h
    refine lv_aload_n (pc := 9) hx hb dX2_readNumber_9 rfl (lv_at hl 0 rfl) ?_
    refine bz_ldcS (pc := 10) X 5 (by decide) rfl rfl dX2_readNumber_10 ?_
    obtain ⟨v2, e1, h⟩ := ob h
    obtain ⟨fs3, hb4⟩ := (rX2_isNextOneOf e1)
    refine bz_callV1 (pc := 12) (As := [.ref (pK P 5)]) (rest := []) X hM hl.1 k_RX2_56 (ctX2_isNextOneOf l e1) rfl hb4 rfl rfl ⟨(Nat.le_of_ble_eq_true rfl), (Nat.le_of_ble_eq_true rfl)⟩ (Nat.le_of_ble_eq_true rfl) ⟨(Nat.le_of_ble_eq_true rfl), (Nat.le_of_ble_eq_true rfl)⟩ dX2_readNumber_12 (fun H locs hM => ?_)
    refine lv_if_eq (pc := 15) (tgt := 54) hx hb dX2_readNumber_15 (by decide) (fun hc => ?_) (fun hc => ?_)
    · have h := if_t hc h
      exact wjX2_readNumber_54 hX _ _ _ _ h H locs ls hM (lv_sub hl [0, 1, 2] rfl)
    · have h := if_f hc h
      refine lv_bipush (pc := 18) (v := (10 : Int32)) hx hb dX2_readNumber_18 (by decide) ?_
      refine lv_iload_n (pc := 20) hx hb dX2_readNumber_20 rfl (lv_at hl 1 rfl) ?_
      refine lv_imul (pc := 21) hx hb dX2_readNumber_21 ?_
      refine lv_aload_n (pc := 22) hx hb dX2_readNumber_22 rfl (lv_at hl 0 rfl) ?_
      obtain ⟨q5, e6, h⟩ := ob h
      refine bz_getQ (pc := 23) X hM fl_RX2_20 e6 dX2_readNumber_23 ?_
      refine lv_aload_n (pc := 26) hx hb dX2_readNumber_26 rfl (lv_at hl 0 rfl) ?_
      obtain ⟨v7, e8, h⟩ := ob h
      refine bz_getI (pc := 27) X hM fl_RX2_36 e8 dX2_readNumber_27 ?_
      obtain ⟨v10, e9, h⟩ := ob h
      obtain ⟨fs11, hb12⟩ := (rX3_at e9)
      refine bz_callV1 (pc := 30) (As := [.int v7]) (rest := [.int ((10 : Int32) * x1)]) X hM hl.1 k_RX2_60 (ctX3_at l e9) rfl hb12 rfl rfl ⟨(Nat.le_of_ble_eq_true rfl), (Nat.le_of_ble_eq_true rfl)⟩ (Nat.le_of_ble_eq_true rfl) ⟨(Nat.le_of_ble_eq_true rfl), (Nat.le_of_ble_eq_true rfl)⟩ dX2_readNumber_30 (fun H locs hM => ?_)
      refine lv_iadd (pc := 33) hx hb dX2_readNumber_33 ?_
      refine lv_bipush (pc := 34) (v := (48 : Int32)) hx hb dX2_readNumber_34 (by decide) ?_
      refine lv_isub (pc := 36) hx hb dX2_readNumber_36 ?_
      refine lv_istore_n (pc := 37) (lv' := [(1, .int ((((10 : Int32) * x1) + v10) - (48 : Int32))), (0, .ref (pB P + x0)), (2, .int x2)]) hx hb dX2_readNumber_37 rfl hl (by decide) rfl (fun ls hl => ?_)
      refine lv_aload_n (pc := 38) hx hb dX2_readNumber_38 rfl (lv_at hl 1 rfl) ?_
      refine lv_dup (pc := 39) hx hb dX2_readNumber_39 rfl ?_
      obtain ⟨v13, e14, h⟩ := ob h
      refine bz_getI (pc := 40) X hM fl_RX2_36 e14 dX2_readNumber_40 ?_
      refine lv_iconst (pc := 43) (v := (1 : Int32)) hx hb dX2_readNumber_43 (by decide) ?_
      refine lv_iadd (pc := 44) hx hb dX2_readNumber_44 ?_
      obtain ⟨M15, e16, h⟩ := ob h
      refine bz_putI (pc := 45) X hM fp_RX2_36 (Or.inl rfl) e16 dX2_readNumber_45 (fun H locs hM => ?_)
      refine lv_iinc (pc := 48) (v := (x2 + (1 : Int32))) (lv' := [(2, .int (x2 + (1 : Int32))), (1, .int ((((10 : Int32) * x1) + v10) - (48 : Int32))), (0, .ref (pB P + x0))]) hx hb dX2_readNumber_48 hl (k := 2) rfl rfl (by decide) rfl (fun ls hl => ?_)
      refine lv_goto (pc := 51) (tgt := 4) hx hb dX2_readNumber_51 (by decide) ?_
      exact hK4 _ _ _ _ h H locs ls hM (lv_sub hl [2, 1, 0] rfl)
set_option maxHeartbeats 4000000 in
set_option maxRecDepth 100000 in
theorem wLX2_readNumber_4 {p : Program} {l : Launch} {e : Env} {s : State} {m : MethodId} {args : Array Value} {below : List Frame} {meth : Method} {c : Code} {P : PT} {N : Nat}  {r9 : Int32} {M9 : Mm} (hX : Cy p s m args c meth cX2_readNumber 3 RX2 "readNumber" (some .boolean) P)   : ∀ (n : Nat) (M : Mm) (x0 : Nat) (x1 : Int32) (x2 : Int32) , LX2_readNumber_4 N n M x0 x1 x2 = some (r9, M9) → Wq p l e s m args below meth c 5 0 (some (.int r9)) M9 3 P 0 4 [(0, .ref (pB P + x0)), (1, .int x1), (2, .int x2)] [] M := by
  intro n
  induction n with
  | zero => intro M x0 x1 x2 h; cases h
  | succ n ih => intro M x0 x1 x2 h; exact wBX2_readNumber_4 hX ih M x0 x1 x2 h
set_option maxHeartbeats 4000000 in
set_option maxRecDepth 100000 in
theorem wX2_readNumber {p : Program} {l : Launch} {e : Env} {s : State} {m : MethodId} {args : Array Value} {below : List Frame} {meth : Method} {c : Code} {P : PT} {N : Nat}  {r9 : Int32} {M9 : Mm} (hX : Cy p s m args c meth cX2_readNumber 3 RX2 "readNumber" (some .boolean) P)  (M : Mm) (a0 : Nat) (h : fX2_readNumber N M a0 = some (r9, M9)) : Wq p l e s m args below meth c 5 0 (some (.int r9)) M9 3 P 0 0 [(0, .ref (pB P + a0))] [] M := by
  unfold fX2_readNumber at h
  obtain ⟨_, _, h⟩ := ob h
  have hX0 := hX
  obtain ⟨X, hr, hlk, hnm⟩ := hX0
  have hx := X.1.1
  have hb := X.1.2.1
  intro H locs ls hM hl
  refine lv_iconst (pc := 0) (v := (0 : Int32)) hx hb dX2_readNumber_0 (by decide) ?_
  refine lv_istore_n (pc := 1) (lv' := [(1, .int (0 : Int32)), (0, .ref (pB P + a0))]) hx hb dX2_readNumber_1 rfl hl (by decide) rfl (fun ls hl => ?_)
  refine lv_iconst (pc := 2) (v := (0 : Int32)) hx hb dX2_readNumber_2 (by decide) ?_
  refine lv_istore_n (pc := 3) (lv' := [(2, .int (0 : Int32)), (1, .int (0 : Int32)), (0, .ref (pB P + a0))]) hx hb dX2_readNumber_3 rfl hl (by decide) rfl (fun ls hl => ?_)
  exact wLX2_readNumber_4 hX _ _ _ _ _ h H locs ls hM (lv_sub hl [2, 1, 0] rfl)
theorem rX2_readNumber {N : Nat} {M : Mm} {a0 : Nat} {r9 : Int32 × Mm} (h : fX2_readNumber N M a0 = some r9) : ∃ fs, M[a0]? = some (.inr (2, fs)) := by
  unfold fX2_readNumber at h
  obtain ⟨_, e1, _⟩ := ob h
  exact gC_spec e1
theorem ctX2_readNumber (l : Launch) {P : PT} {N : Nat} {M : Mm} {a0 : Nat} {r9 : Int32} {M9 : Mm} (h : fX2_readNumber N M a0 = some (r9, M9)) : Ct l yX2_readNumber cX2_readNumber 3 (some .boolean) 5 0 P [.ref (pB P + a0)] M (some (.int r9)) M9 :=
  Ct.mk (by decide +kernel) (Nat.le_of_ble_eq_true rfl) (fun p e s m args below meth c hX => wX2_readNumber hX M a0 h)
set_option maxHeartbeats 4000000 in
set_option maxRecDepth 100000 in
theorem wBX2_readLevel_26 {p : Program} {l : Launch} {e : Env} {s : State} {m : MethodId} {args : Array Value} {below : List Frame} {meth : Method} {c : Code} {P : PT} {D : Nat} {q0 : Mm → Nat → Int32 → Int32 → Option (Int32 × Mm)} {q1 : Mm → Nat → Int32 → Option (Int32 × Mm)} {q2 : Mm → Nat → Int32 → Option (Int32 × Mm)} {N : Nat} {K26 : Mm → Nat → Int32 → Int32 → Int32 → Option (Int32 × Mm)}  {r9 : Int32} {M9 : Mm} (hX : Cy p s m args c meth cX2_readLevel 5 RX2 "readLevel" (some .boolean) P) (hq0 : ∀ (M : Mm) (a0 : Nat) (a1 : Int32) (a2 : Int32) (r9 : Int32) (M9 : Mm), q0 M a0 a1 a2 = some (r9, M9) → Ct l yX2_readLevel cX2_readLevel 5 (some .boolean) (6 + D) 0 P [.ref (pB P + a0), .int a1, .int a2] M (some (.int r9)) M9) (hp0 : ∀ (M : Mm) (a0 : Nat) (a1 : Int32) (a2 : Int32) (r9 : Int32 × Mm), q0 M a0 a1 a2 = some r9 → ∃ fs, M[a0]? = some (.inr (2, fs))) (hq1 : ∀ (M : Mm) (a0 : Nat) (a1 : Int32) (r9 : Int32) (M9 : Mm), q1 M a0 a1 = some (r9, M9) → Ct l yX2_readOpened cX2_readOpened 3 (some .boolean) (6 + D) 0 P [.ref (pB P + a0), .int a1] M (some (.int r9)) M9) (hp1 : ∀ (M : Mm) (a0 : Nat) (a1 : Int32) (r9 : Int32 × Mm), q1 M a0 a1 = some r9 → ∃ fs, M[a0]? = some (.inr (2, fs))) (hq2 : ∀ (M : Mm) (a0 : Nat) (a1 : Int32) (r9 : Int32) (M9 : Mm), q2 M a0 a1 = some (r9, M9) → Ct l yX2_readOperand cX2_readOperand 2 (some .boolean) (6 + D) 0 P [.ref (pB P + a0), .int a1] M (some (.int r9)) M9) (hp2 : ∀ (M : Mm) (a0 : Nat) (a1 : Int32) (r9 : Int32 × Mm), q2 M a0 a1 = some r9 → ∃ fs, M[a0]? = some (.inr (2, fs)))  (hK26 : ∀ (M : Mm) (x0 : Nat) (x1 : Int32) (x2 : Int32) (x3 : Int32), K26 M x0 x1 x2 x3 = some (r9, M9) → Wq p l e s m args below meth c (6 + D + 1) 0 (some (.int r9)) M9 5 P 0 26 [(0, .ref (pB P + x0)), (1, .int x1), (2, .int x2), (3, .int x3)] [] M) (M : Mm) (x0 : Nat) (x1 : Int32) (x2 : Int32) (x3 : Int32)  (h : BX2_readLevel_26 q0 q1 q2 N K26 M x0 x1 x2 x3 = some (r9, M9)) : Wq p l e s m args below meth c (6 + D + 1) 0 (some (.int r9)) M9 5 P 0 26 [(0, .ref (pB P + x0)), (1, .int x1), (2, .int x2), (3, .int x3)] [] M := by
  unfold BX2_readLevel_26 at h
  have hX0 := hX
  obtain ⟨X, hr, hlk, hnm⟩ := hX0
  have hx := X.1.1
  have hb := X.1.2.1
  intro H locs ls hM hl
  refine lv_iload_n (pc := 26) hx hb dX2_readLevel_26 rfl (lv_at hl 3 rfl) ?_
  refine lv_bipush (pc := 27) (v := (50 : Int32)) hx hb dX2_readLevel_27 (by decide) ?_
  refine lv_icmp_ge (pc := 29) (tgt := 103) hx hb dX2_readLevel_29 (by decide) (fun hc => ?_) (fun hc => ?_)
  · have h := if_t hc h
    refine lv_iconst (pc := 103) (v := (1 : Int32)) hx hb dX2_readLevel_103 (by decide) ?_
    obtain ⟨rfl, rfl⟩ := so2 h
    exact bz_zret (pc := 104) X hM hr hlk (by decide) dX2_readLevel_104 (Nat.le_of_ble_eq_true rfl) (Nat.le_of_ble_eq_true rfl)
  · have h := if_f hc h
    refine lv_aload_n (pc := 32) hx hb dX2_readLevel_32 rfl (lv_at hl 0 rfl) ?_
    refine lv_iload_n (pc := 33) hx hb dX2_readLevel_33 rfl (lv_at hl 1 rfl) ?_
    obtain ⟨v2, e1, h⟩ := ob h
    refine bz_callS1 (pc := 34) (As := [.int x1]) (rest := [.ref (pB P + x0)]) X hM hl.1 k_RX2_52 (ctX2_signsOf l e1) rfl rfl (rm_ok (by omega) (Nat.le_of_ble_eq_true rfl)) (Nat.le_of_ble_eq_true rfl) ⟨(Nat.le_of_ble_eq_true rfl), (Nat.le_of_ble_eq_true rfl)⟩ dX2_readLevel_34 (fun H locs hM => ?_)
    obtain ⟨v4, e3, h⟩ := ob h
    obtain ⟨fs5, hb6⟩ := (rX2_isNextOneOf e3)
    refine bz_callV1 (pc := 37) (As := [.ref (pK P v2)]) (rest := []) X hM hl.1 k_RX2_56 (ctX2_isNextOneOf l e3) rfl hb6 rfl rfl (rm_ok (by omega) (Nat.le_of_ble_eq_true rfl)) (Nat.le_of_ble_eq_true rfl) ⟨(Nat.le_of_ble_eq_true rfl), (Nat.le_of_ble_eq_true rfl)⟩ dX2_readLevel_37 (fun H locs hM => ?_)
    refine lv_if_eq (pc := 40) (tgt := 103) hx hb dX2_readLevel_40 (by decide) (fun hc => ?_) (fun hc => ?_)
    · have h := if_t hc h
      refine lv_iconst (pc := 103) (v := (1 : Int32)) hx hb dX2_readLevel_103 (by decide) ?_
      obtain ⟨rfl, rfl⟩ := so2 h
      exact bz_zret (pc := 104) X hM hr hlk (by decide) dX2_readLevel_104 (Nat.le_of_ble_eq_true rfl) (Nat.le_of_ble_eq_true rfl)
    · have h := if_f hc h
      refine lv_aload_n (pc := 43) hx hb dX2_readLevel_43 rfl (lv_at hl 0 rfl) ?_
      obtain ⟨q7, e8, h⟩ := ob h
      refine bz_getQ (pc := 44) X hM fl_RX2_20 e8 dX2_readLevel_44 ?_
      refine lv_aload_n (pc := 47) hx hb dX2_readLevel_47 rfl (lv_at hl 0 rfl) ?_
      obtain ⟨v9, e10, h⟩ := ob h
      refine bz_getI (pc := 48) X hM fl_RX2_36 e10 dX2_readLevel_48 ?_
      obtain ⟨v12, e11, h⟩ := ob h
      obtain ⟨fs13, hb14⟩ := (rX3_at e11)
      refine bz_callV1 (pc := 51) (As := [.int v9]) (rest := []) X hM hl.1 k_RX2_60 (ctX3_at l e11) rfl hb14 rfl rfl (rm_ok (by omega) (Nat.le_of_ble_eq_true rfl)) (Nat.le_of_ble_eq_true rfl) ⟨(Nat.le_of_ble_eq_true rfl), (Nat.le_of_ble_eq_true rfl)⟩ dX2_readLevel_51 (fun H locs hM => ?_)
      refine lv_istore (pc := 54) (lv' := [(4, .int v12), (0, .ref (pB P + x0)), (1, .int x1), (2, .int x2), (3, .int x3)]) hx hb dX2_readLevel_54 hl (by decide) rfl (fun ls hl => ?_)
      refine lv_aload_n (pc := 56) hx hb dX2_readLevel_56 rfl (lv_at hl 1 rfl) ?_
      refine lv_dup (pc := 57) hx hb dX2_readLevel_57 rfl ?_
      obtain ⟨v15, e16, h⟩ := ob h
      refine bz_getI (pc := 58) X hM fl_RX2_36 e16 dX2_readLevel_58 ?_
      refine lv_iconst (pc := 61) (v := (1 : Int32)) hx hb dX2_readLevel_61 (by decide) ?_
      refine lv_iadd (pc := 62) hx hb dX2_readLevel_62 ?_
      obtain ⟨M17, e18, h⟩ := ob h
      refine bz_putI (pc := 63) X hM fp_RX2_36 (Or.inl rfl) e18 dX2_readLevel_63 (fun H locs hM => ?_)
      refine lv_aload_n (pc := 66) hx hb dX2_readLevel_66 rfl (lv_at hl 1 rfl) ?_
      refine lv_iload_n (pc := 67) hx hb dX2_readLevel_67 rfl (lv_at hl 2 rfl) ?_
      refine lv_iconst (pc := 68) (v := (1 : Int32)) hx hb dX2_readLevel_68 (by decide) ?_
      refine lv_iadd (pc := 69) hx hb dX2_readLevel_69 ?_
      refine lv_iload_n (pc := 70) hx hb dX2_readLevel_70 rfl (lv_at hl 3 rfl) ?_
      obtain ⟨v20, M21, e19, h⟩ := ob2 h
      obtain ⟨fs22, hb23⟩ := (hp0 _ _ _ _ _ e19)
      refine bz_callV1 (pc := 71) (As := [.int (x1 + (1 : Int32)), .int x2]) (rest := []) X hM hl.1 k_RX2_40 (hq0 _ _ _ _ _ _ e19) rfl hb23 rfl rfl (rm_ok (by omega) (Nat.le_of_ble_eq_true rfl)) (Nat.le_of_ble_eq_true rfl) ⟨(Nat.le_of_ble_eq_true rfl), (Nat.le_of_ble_eq_true rfl)⟩ dX2_readLevel_71 (fun H locs hM => ?_)
      refine lv_if_ne (pc := 74) (tgt := 79) hx hb dX2_readLevel_74 (by decide) (fun hc => ?_) (fun hc => ?_)
      · have h := if_f hc h
        refine lv_aload_n (pc := 79) hx hb dX2_readLevel_79 rfl (lv_at hl 1 rfl) ?_
        obtain ⟨q24, e25, h⟩ := ob h
        refine bz_getQ (pc := 80) X hM fl_RX2_14 e25 dX2_readLevel_80 ?_
        refine lv_iload (pc := 83) hx hb dX2_readLevel_83 (lv_at hl 0 rfl) ?_
        refine lv_ineg (pc := 85) hx hb dX2_readLevel_85 ?_
        obtain ⟨v27, M28, e26, h⟩ := ob2 h
        obtain ⟨fs29, hb30⟩ := (rX3_add e26)
        refine bz_callV1 (pc := 86) (As := [.int (-v12)]) (rest := []) X hM hl.1 k_RX2_64 (ctX3_add l e26) rfl hb30 rfl rfl (rm_ok (by omega) (Nat.le_of_ble_eq_true rfl)) (Nat.le_of_ble_eq_true rfl) ⟨(Nat.le_of_ble_eq_true rfl), (Nat.le_of_ble_eq_true rfl)⟩ dX2_readLevel_86 (fun H locs hM => ?_)
        refine lv_pop (pc := 89) hx hb dX2_readLevel_89 rfl ?_
        refine lv_iload_n (pc := 90) hx hb dX2_readLevel_90 rfl (lv_at hl 2 rfl) ?_
        refine lv_iconst (pc := 91) (v := (2 : Int32)) hx hb dX2_readLevel_91 (by decide) ?_
        refine lv_icmp_ne (pc := 92) (tgt := 97) hx hb dX2_readLevel_92 (by decide) (fun hc => ?_) (fun hc => ?_)
        · have h := if_f hc h
          refine lv_iinc (pc := 97) (v := (x3 + (1 : Int32))) (lv' := [(3, .int (x3 + (1 : Int32))), (4, .int v12), (0, .ref (pB P + x0)), (1, .int x1), (2, .int x2)]) hx hb dX2_readLevel_97 hl (k := 4) rfl rfl (by decide) rfl (fun ls hl => ?_)
          refine lv_goto (pc := 100) (tgt := 26) hx hb dX2_readLevel_100 (by decide) ?_
          exact hK26 _ _ _ _ _ h H locs ls hM (lv_sub hl [2, 3, 4, 0] rfl)
        · have h := if_t hc h
          refine lv_iconst (pc := 95) (v := (1 : Int32)) hx hb dX2_readLevel_95 (by decide) ?_
          obtain ⟨rfl, rfl⟩ := so2 h
          exact bz_zret (pc := 96) X hM hr hlk (by decide) dX2_readLevel_96 (Nat.le_of_ble_eq_true rfl) (Nat.le_of_ble_eq_true rfl)
      · have h := if_t hc h
        refine lv_iconst (pc := 77) (v := (0 : Int32)) hx hb dX2_readLevel_77 (by decide) ?_
        obtain ⟨rfl, rfl⟩ := so2 h
        exact bz_zret (pc := 78) X hM hr hlk (by decide) dX2_readLevel_78 (Nat.le_of_ble_eq_true rfl) (Nat.le_of_ble_eq_true rfl)
set_option maxHeartbeats 4000000 in
set_option maxRecDepth 100000 in
theorem wLX2_readLevel_26 {p : Program} {l : Launch} {e : Env} {s : State} {m : MethodId} {args : Array Value} {below : List Frame} {meth : Method} {c : Code} {P : PT} {D : Nat} {q0 : Mm → Nat → Int32 → Int32 → Option (Int32 × Mm)} {q1 : Mm → Nat → Int32 → Option (Int32 × Mm)} {q2 : Mm → Nat → Int32 → Option (Int32 × Mm)} {N : Nat}  {r9 : Int32} {M9 : Mm} (hX : Cy p s m args c meth cX2_readLevel 5 RX2 "readLevel" (some .boolean) P) (hq0 : ∀ (M : Mm) (a0 : Nat) (a1 : Int32) (a2 : Int32) (r9 : Int32) (M9 : Mm), q0 M a0 a1 a2 = some (r9, M9) → Ct l yX2_readLevel cX2_readLevel 5 (some .boolean) (6 + D) 0 P [.ref (pB P + a0), .int a1, .int a2] M (some (.int r9)) M9) (hp0 : ∀ (M : Mm) (a0 : Nat) (a1 : Int32) (a2 : Int32) (r9 : Int32 × Mm), q0 M a0 a1 a2 = some r9 → ∃ fs, M[a0]? = some (.inr (2, fs))) (hq1 : ∀ (M : Mm) (a0 : Nat) (a1 : Int32) (r9 : Int32) (M9 : Mm), q1 M a0 a1 = some (r9, M9) → Ct l yX2_readOpened cX2_readOpened 3 (some .boolean) (6 + D) 0 P [.ref (pB P + a0), .int a1] M (some (.int r9)) M9) (hp1 : ∀ (M : Mm) (a0 : Nat) (a1 : Int32) (r9 : Int32 × Mm), q1 M a0 a1 = some r9 → ∃ fs, M[a0]? = some (.inr (2, fs))) (hq2 : ∀ (M : Mm) (a0 : Nat) (a1 : Int32) (r9 : Int32) (M9 : Mm), q2 M a0 a1 = some (r9, M9) → Ct l yX2_readOperand cX2_readOperand 2 (some .boolean) (6 + D) 0 P [.ref (pB P + a0), .int a1] M (some (.int r9)) M9) (hp2 : ∀ (M : Mm) (a0 : Nat) (a1 : Int32) (r9 : Int32 × Mm), q2 M a0 a1 = some r9 → ∃ fs, M[a0]? = some (.inr (2, fs)))   : ∀ (n : Nat) (M : Mm) (x0 : Nat) (x1 : Int32) (x2 : Int32) (x3 : Int32) , LX2_readLevel_26 q0 q1 q2 N n M x0 x1 x2 x3 = some (r9, M9) → Wq p l e s m args below meth c (6 + D + 1) 0 (some (.int r9)) M9 5 P 0 26 [(0, .ref (pB P + x0)), (1, .int x1), (2, .int x2), (3, .int x3)] [] M := by
  intro n
  induction n with
  | zero => intro M x0 x1 x2 x3 h; cases h
  | succ n ih => intro M x0 x1 x2 x3 h; exact wBX2_readLevel_26 hX hq0 hp0 hq1 hp1 hq2 hp2 ih M x0 x1 x2 x3 h
set_option maxHeartbeats 4000000 in
set_option maxRecDepth 100000 in
theorem wX2_readLevel {p : Program} {l : Launch} {e : Env} {s : State} {m : MethodId} {args : Array Value} {below : List Frame} {meth : Method} {c : Code} {P : PT} {D : Nat} {q0 : Mm → Nat → Int32 → Int32 → Option (Int32 × Mm)} {q1 : Mm → Nat → Int32 → Option (Int32 × Mm)} {q2 : Mm → Nat → Int32 → Option (Int32 × Mm)} {N : Nat}  {r9 : Int32} {M9 : Mm} (hX : Cy p s m args c meth cX2_readLevel 5 RX2 "readLevel" (some .boolean) P) (hq0 : ∀ (M : Mm) (a0 : Nat) (a1 : Int32) (a2 : Int32) (r9 : Int32) (M9 : Mm), q0 M a0 a1 a2 = some (r9, M9) → Ct l yX2_readLevel cX2_readLevel 5 (some .boolean) (6 + D) 0 P [.ref (pB P + a0), .int a1, .int a2] M (some (.int r9)) M9) (hp0 : ∀ (M : Mm) (a0 : Nat) (a1 : Int32) (a2 : Int32) (r9 : Int32 × Mm), q0 M a0 a1 a2 = some r9 → ∃ fs, M[a0]? = some (.inr (2, fs))) (hq1 : ∀ (M : Mm) (a0 : Nat) (a1 : Int32) (r9 : Int32) (M9 : Mm), q1 M a0 a1 = some (r9, M9) → Ct l yX2_readOpened cX2_readOpened 3 (some .boolean) (6 + D) 0 P [.ref (pB P + a0), .int a1] M (some (.int r9)) M9) (hp1 : ∀ (M : Mm) (a0 : Nat) (a1 : Int32) (r9 : Int32 × Mm), q1 M a0 a1 = some r9 → ∃ fs, M[a0]? = some (.inr (2, fs))) (hq2 : ∀ (M : Mm) (a0 : Nat) (a1 : Int32) (r9 : Int32) (M9 : Mm), q2 M a0 a1 = some (r9, M9) → Ct l yX2_readOperand cX2_readOperand 2 (some .boolean) (6 + D) 0 P [.ref (pB P + a0), .int a1] M (some (.int r9)) M9) (hp2 : ∀ (M : Mm) (a0 : Nat) (a1 : Int32) (r9 : Int32 × Mm), q2 M a0 a1 = some r9 → ∃ fs, M[a0]? = some (.inr (2, fs)))  (M : Mm) (a0 : Nat) (a1 : Int32) (a2 : Int32) (h : FX2_readLevel q0 q1 q2 N M a0 a1 a2 = some (r9, M9)) : Wq p l e s m args below meth c (6 + D + 1) 0 (some (.int r9)) M9 5 P 0 0 [(0, .ref (pB P + a0)), (1, .int a1), (2, .int a2)] [] M := by
  unfold FX2_readLevel at h
  obtain ⟨_, _, h⟩ := ob h
  have hX0 := hX
  obtain ⟨X, hr, hlk, hnm⟩ := hX0
  have hx := X.1.1
  have hb := X.1.2.1
  intro H locs ls hM hl
  refine lv_iload_n (pc := 0) hx hb dX2_readLevel_0 rfl (lv_at hl 1 rfl) ?_
  refine lv_iconst (pc := 1) (v := (5 : Int32)) hx hb dX2_readLevel_1 (by decide) ?_
  refine lv_icmp_lt (pc := 2) (tgt := 11) hx hb dX2_readLevel_2 (by decide) (fun hc => ?_) (fun hc => ?_)
  · have h := if_t hc h
    refine lv_aload_n (pc := 11) hx hb dX2_readLevel_11 rfl (lv_at hl 0 rfl) ?_
    refine lv_iload_n (pc := 12) hx hb dX2_readLevel_12 rfl (lv_at hl 1 rfl) ?_
    refine lv_iconst (pc := 13) (v := (1 : Int32)) hx hb dX2_readLevel_13 (by decide) ?_
    refine lv_iadd (pc := 14) hx hb dX2_readLevel_14 ?_
    refine lv_iload_n (pc := 15) hx hb dX2_readLevel_15 rfl (lv_at hl 2 rfl) ?_
    obtain ⟨v2, M3, e1, h⟩ := ob2 h
    obtain ⟨fs4, hb5⟩ := (hp0 _ _ _ _ _ e1)
    refine bz_callV1 (pc := 16) (As := [.int (a1 + (1 : Int32)), .int a2]) (rest := []) X hM hl.1 k_RX2_40 (hq0 _ _ _ _ _ _ e1) rfl hb5 rfl rfl (rm_ok (by omega) (Nat.le_of_ble_eq_true rfl)) (Nat.le_of_ble_eq_true rfl) ⟨(Nat.le_of_ble_eq_true rfl), (Nat.le_of_ble_eq_true rfl)⟩ dX2_readLevel_16 (fun H locs hM => ?_)
    refine lv_if_ne (pc := 19) (tgt := 24) hx hb dX2_readLevel_19 (by decide) (fun hc => ?_) (fun hc => ?_)
    · have h := if_f hc h
      refine lv_iconst (pc := 24) (v := (0 : Int32)) hx hb dX2_readLevel_24 (by decide) ?_
      refine lv_istore_n (pc := 25) (lv' := [(3, .int (0 : Int32)), (0, .ref (pB P + a0)), (1, .int a1), (2, .int a2)]) hx hb dX2_readLevel_25 rfl hl (by decide) rfl (fun ls hl => ?_)
      exact wLX2_readLevel_26 hX hq0 hp0 hq1 hp1 hq2 hp2 _ _ _ _ _ _ h H locs ls hM (lv_sub hl [1, 2, 3, 0] rfl)
    · have h := if_t hc h
      refine lv_iconst (pc := 22) (v := (0 : Int32)) hx hb dX2_readLevel_22 (by decide) ?_
      obtain ⟨rfl, rfl⟩ := so2 h
      exact bz_zret (pc := 23) X hM hr hlk (by decide) dX2_readLevel_23 (Nat.le_of_ble_eq_true rfl) (Nat.le_of_ble_eq_true rfl)
  · have h := if_f hc h
    refine lv_aload_n (pc := 5) hx hb dX2_readLevel_5 rfl (lv_at hl 0 rfl) ?_
    refine lv_iload_n (pc := 6) hx hb dX2_readLevel_6 rfl (lv_at hl 2 rfl) ?_
    obtain ⟨v7, M8, e6, h⟩ := ob2 h
    obtain ⟨fs9, hb10⟩ := (hp2 _ _ _ _ e6)
    refine bz_callV1 (pc := 7) (As := [.int a2]) (rest := []) X hM hl.1 k_RX2_48 (hq2 _ _ _ _ _ e6) rfl hb10 rfl rfl (rm_ok (by omega) (Nat.le_of_ble_eq_true rfl)) (Nat.le_of_ble_eq_true rfl) ⟨(Nat.le_of_ble_eq_true rfl), (Nat.le_of_ble_eq_true rfl)⟩ dX2_readLevel_7 (fun H locs hM => ?_)
    obtain ⟨v11, e12, h⟩ := ob h
    obtain ⟨rfl, rfl⟩ := so2 h
    exact bz_zretz (pc := 10) X hM hr hlk e12 dX2_readLevel_10 (Nat.le_of_ble_eq_true rfl) (Nat.le_of_ble_eq_true rfl)
theorem rF_X2_readLevel {q0 : Mm → Nat → Int32 → Int32 → Option (Int32 × Mm)} {q1 : Mm → Nat → Int32 → Option (Int32 × Mm)} {q2 : Mm → Nat → Int32 → Option (Int32 × Mm)} {N : Nat} {M : Mm} {a0 : Nat} {a1 : Int32} {a2 : Int32} {r9 : Int32 × Mm} (h : FX2_readLevel q0 q1 q2 N M a0 a1 a2 = some r9) : ∃ fs, M[a0]? = some (.inr (2, fs)) := by
  unfold FX2_readLevel at h
  obtain ⟨_, e1, _⟩ := ob h
  exact gC_spec e1
set_option maxHeartbeats 4000000 in
set_option maxRecDepth 100000 in
theorem wX2_readOpened {p : Program} {l : Launch} {e : Env} {s : State} {m : MethodId} {args : Array Value} {below : List Frame} {meth : Method} {c : Code} {P : PT} {D : Nat} {q0 : Mm → Nat → Int32 → Int32 → Option (Int32 × Mm)} {q1 : Mm → Nat → Int32 → Option (Int32 × Mm)} {q2 : Mm → Nat → Int32 → Option (Int32 × Mm)} {N : Nat}  {r9 : Int32} {M9 : Mm} (hX : Cy p s m args c meth cX2_readOpened 3 RX2 "readOpened" (some .boolean) P) (hq0 : ∀ (M : Mm) (a0 : Nat) (a1 : Int32) (a2 : Int32) (r9 : Int32) (M9 : Mm), q0 M a0 a1 a2 = some (r9, M9) → Ct l yX2_readLevel cX2_readLevel 5 (some .boolean) (6 + D) 0 P [.ref (pB P + a0), .int a1, .int a2] M (some (.int r9)) M9) (hp0 : ∀ (M : Mm) (a0 : Nat) (a1 : Int32) (a2 : Int32) (r9 : Int32 × Mm), q0 M a0 a1 a2 = some r9 → ∃ fs, M[a0]? = some (.inr (2, fs))) (hq1 : ∀ (M : Mm) (a0 : Nat) (a1 : Int32) (r9 : Int32) (M9 : Mm), q1 M a0 a1 = some (r9, M9) → Ct l yX2_readOpened cX2_readOpened 3 (some .boolean) (6 + D) 0 P [.ref (pB P + a0), .int a1] M (some (.int r9)) M9) (hp1 : ∀ (M : Mm) (a0 : Nat) (a1 : Int32) (r9 : Int32 × Mm), q1 M a0 a1 = some r9 → ∃ fs, M[a0]? = some (.inr (2, fs))) (hq2 : ∀ (M : Mm) (a0 : Nat) (a1 : Int32) (r9 : Int32) (M9 : Mm), q2 M a0 a1 = some (r9, M9) → Ct l yX2_readOperand cX2_readOperand 2 (some .boolean) (6 + D) 0 P [.ref (pB P + a0), .int a1] M (some (.int r9)) M9) (hp2 : ∀ (M : Mm) (a0 : Nat) (a1 : Int32) (r9 : Int32 × Mm), q2 M a0 a1 = some r9 → ∃ fs, M[a0]? = some (.inr (2, fs)))  (M : Mm) (a0 : Nat) (a1 : Int32) (h : FX2_readOpened q0 q1 q2 N M a0 a1 = some (r9, M9)) : Wq p l e s m args below meth c (6 + D + 1) 0 (some (.int r9)) M9 3 P 0 0 [(0, .ref (pB P + a0)), (1, .int a1)] [] M := by
  unfold FX2_readOpened at h
  obtain ⟨_, _, h⟩ := ob h
  have hX0 := hX
  obtain ⟨X, hr, hlk, hnm⟩ := hX0
  have hx := X.1.1
  have hb := X.1.2.1
  intro H locs ls hM hl
  refine lv_aload_n (pc := 0) hx hb dX2_readOpened_0 rfl (lv_at hl 0 rfl) ?_
  obtain ⟨q1, e2, h⟩ := ob h
  refine bz_getQ (pc := 1) X hM fl_RX2_20 e2 dX2_readOpened_1 ?_
  refine lv_aload_n (pc := 4) hx hb dX2_readOpened_4 rfl (lv_at hl 0 rfl) ?_
  obtain ⟨v3, e4, h⟩ := ob h
  refine bz_getI (pc := 5) X hM fl_RX2_36 e4 dX2_readOpened_5 ?_
  obtain ⟨v6, e5, h⟩ := ob h
  obtain ⟨fs7, hb8⟩ := (rX3_at e5)
  refine bz_callV1 (pc := 8) (As := [.int v3]) (rest := []) X hM hl.1 k_RX2_60 (ctX3_at l e5) rfl hb8 rfl rfl (rm_ok (by omega) (Nat.le_of_ble_eq_true rfl)) (Nat.le_of_ble_eq_true rfl) ⟨(Nat.le_of_ble_eq_true rfl), (Nat.le_of_ble_eq_true rfl)⟩ dX2_readOpened_8 (fun H locs hM => ?_)
  refine lv_istore_n (pc := 11) (lv' := [(2, .int v6), (0, .ref (pB P + a0)), (1, .int a1)]) hx hb dX2_readOpened_11 rfl hl (by decide) rfl (fun ls hl => ?_)
  refine lv_aload_n (pc := 12) hx hb dX2_readOpened_12 rfl (lv_at hl 1 rfl) ?_
  refine lv_dup (pc := 13) hx hb dX2_readOpened_13 rfl ?_
  obtain ⟨v9, e10, h⟩ := ob h
  refine bz_getI (pc := 14) X hM fl_RX2_36 e10 dX2_readOpened_14 ?_
  refine lv_iconst (pc := 17) (v := (1 : Int32)) hx hb dX2_readOpened_17 (by decide) ?_
  refine lv_iadd (pc := 18) hx hb dX2_readOpened_18 ?_
  obtain ⟨M11, e12, h⟩ := ob h
  refine bz_putI (pc := 19) X hM fp_RX2_36 (Or.inl rfl) e12 dX2_readOpened_19 (fun H locs hM => ?_)
  refine lv_iload_n (pc := 22) hx hb dX2_readOpened_22 rfl (lv_at hl 0 rfl) ?_
  refine lv_bipush (pc := 23) (v := (33 : Int32)) hx hb dX2_readOpened_23 (by decide) ?_
  refine lv_icmp_ne (pc := 25) (tgt := 50) hx hb dX2_readOpened_25 (by decide) (fun hc => ?_) (fun hc => ?_)
  · have h := if_f hc h
    refine lv_aload_n (pc := 50) hx hb dX2_readOpened_50 rfl (lv_at hl 1 rfl) ?_
    refine lv_iconst (pc := 51) (v := (0 : Int32)) hx hb dX2_readOpened_51 (by decide) ?_
    refine lv_iload_n (pc := 52) hx hb dX2_readOpened_52 rfl (lv_at hl 2 rfl) ?_
    obtain ⟨v14, M15, e13, h⟩ := ob2 h
    obtain ⟨fs16, hb17⟩ := (hp0 _ _ _ _ _ e13)
    refine bz_callV1 (pc := 53) (As := [.int (0 : Int32), .int a1]) (rest := []) X hM hl.1 k_RX2_40 (hq0 _ _ _ _ _ _ e13) rfl hb17 rfl rfl (rm_ok (by omega) (Nat.le_of_ble_eq_true rfl)) (Nat.le_of_ble_eq_true rfl) ⟨(Nat.le_of_ble_eq_true rfl), (Nat.le_of_ble_eq_true rfl)⟩ dX2_readOpened_53 (fun H locs hM => ?_)
    refine lv_if_eq (pc := 56) (tgt := 68) hx hb dX2_readOpened_56 (by decide) (fun hc => ?_) (fun hc => ?_)
    · have h := if_t hc h
      refine lv_iconst (pc := 68) (v := (0 : Int32)) hx hb dX2_readOpened_68 (by decide) ?_
      obtain ⟨rfl, rfl⟩ := so2 h
      exact bz_zret (pc := 69) X hM hr hlk (by decide) dX2_readOpened_69 (Nat.le_of_ble_eq_true rfl) (Nat.le_of_ble_eq_true rfl)
    · have h := if_f hc h
      refine lv_aload_n (pc := 59) hx hb dX2_readOpened_59 rfl (lv_at hl 1 rfl) ?_
      refine bz_ldcS (pc := 60) X 4 (by decide) rfl rfl dX2_readOpened_60 ?_
      obtain ⟨v19, e18, h⟩ := ob h
      obtain ⟨fs20, hb21⟩ := (rX2_isNextOneOf e18)
      refine bz_callV1 (pc := 62) (As := [.ref (pK P 4)]) (rest := []) X hM hl.1 k_RX2_56 (ctX2_isNextOneOf l e18) rfl hb21 rfl rfl (rm_ok (by omega) (Nat.le_of_ble_eq_true rfl)) (Nat.le_of_ble_eq_true rfl) ⟨(Nat.le_of_ble_eq_true rfl), (Nat.le_of_ble_eq_true rfl)⟩ dX2_readOpened_62 (fun H locs hM => ?_)
      refine lv_if_ne (pc := 65) (tgt := 70) hx hb dX2_readOpened_65 (by decide) (fun hc => ?_) (fun hc => ?_)
      · have h := if_f hc h
        refine lv_aload_n (pc := 70) hx hb dX2_readOpened_70 rfl (lv_at hl 1 rfl) ?_
        refine lv_dup (pc := 71) hx hb dX2_readOpened_71 rfl ?_
        obtain ⟨v22, e23, h⟩ := ob h
        refine bz_getI (pc := 72) X hM fl_RX2_36 e23 dX2_readOpened_72 ?_
        refine lv_iconst (pc := 75) (v := (1 : Int32)) hx hb dX2_readOpened_75 (by decide) ?_
        refine lv_iadd (pc := 76) hx hb dX2_readOpened_76 ?_
        obtain ⟨M24, e25, h⟩ := ob h
        refine bz_putI (pc := 77) X hM fp_RX2_36 (Or.inl rfl) e25 dX2_readOpened_77 (fun H locs hM => ?_)
        refine lv_iconst (pc := 80) (v := (1 : Int32)) hx hb dX2_readOpened_80 (by decide) ?_
        obtain ⟨rfl, rfl⟩ := so2 h
        exact bz_zret (pc := 81) X hM hr hlk (by decide) dX2_readOpened_81 (Nat.le_of_ble_eq_true rfl) (Nat.le_of_ble_eq_true rfl)
      · have h := if_t hc h
        refine lv_iconst (pc := 68) (v := (0 : Int32)) hx hb dX2_readOpened_68 (by decide) ?_
        obtain ⟨rfl, rfl⟩ := so2 h
        exact bz_zret (pc := 69) X hM hr hlk (by decide) dX2_readOpened_69 (Nat.le_of_ble_eq_true rfl) (Nat.le_of_ble_eq_true rfl)
  · have h := if_t hc h
    refine lv_aload_n (pc := 28) hx hb dX2_readOpened_28 rfl (lv_at hl 1 rfl) ?_
    refine lv_iload_n (pc := 29) hx hb dX2_readOpened_29 rfl (lv_at hl 2 rfl) ?_
    obtain ⟨v27, M28, e26, h⟩ := ob2 h
    obtain ⟨fs29, hb30⟩ := (hp2 _ _ _ _ e26)
    refine bz_callV1 (pc := 30) (As := [.int a1]) (rest := []) X hM hl.1 k_RX2_48 (hq2 _ _ _ _ _ e26) rfl hb30 rfl rfl (rm_ok (by omega) (Nat.le_of_ble_eq_true rfl)) (Nat.le_of_ble_eq_true rfl) ⟨(Nat.le_of_ble_eq_true rfl), (Nat.le_of_ble_eq_true rfl)⟩ dX2_readOpened_30 (fun H locs hM => ?_)
    refine lv_if_ne (pc := 33) (tgt := 38) hx hb dX2_readOpened_33 (by decide) (fun hc => ?_) (fun hc => ?_)
    · have h := if_f hc h
      refine lv_aload_n (pc := 38) hx hb dX2_readOpened_38 rfl (lv_at hl 1 rfl) ?_
      obtain ⟨q31, e32, h⟩ := ob h
      refine bz_getQ (pc := 39) X hM fl_RX2_14 e32 dX2_readOpened_39 ?_
      refine lv_iload_n (pc := 42) hx hb dX2_readOpened_42 rfl (lv_at hl 0 rfl) ?_
      refine lv_ineg (pc := 43) hx hb dX2_readOpened_43 ?_
      obtain ⟨v34, M35, e33, h⟩ := ob2 h
      obtain ⟨fs36, hb37⟩ := (rX3_add e33)
      refine bz_callV1 (pc := 44) (As := [.int (-v6)]) (rest := []) X hM hl.1 k_RX2_64 (ctX3_add l e33) rfl hb37 rfl rfl (rm_ok (by omega) (Nat.le_of_ble_eq_true rfl)) (Nat.le_of_ble_eq_true rfl) ⟨(Nat.le_of_ble_eq_true rfl), (Nat.le_of_ble_eq_true rfl)⟩ dX2_readOpened_44 (fun H locs hM => ?_)
      refine lv_pop (pc := 47) hx hb dX2_readOpened_47 rfl ?_
      refine lv_iconst (pc := 48) (v := (1 : Int32)) hx hb dX2_readOpened_48 (by decide) ?_
      obtain ⟨rfl, rfl⟩ := so2 h
      exact bz_zret (pc := 49) X hM hr hlk (by decide) dX2_readOpened_49 (Nat.le_of_ble_eq_true rfl) (Nat.le_of_ble_eq_true rfl)
    · have h := if_t hc h
      refine lv_iconst (pc := 36) (v := (0 : Int32)) hx hb dX2_readOpened_36 (by decide) ?_
      obtain ⟨rfl, rfl⟩ := so2 h
      exact bz_zret (pc := 37) X hM hr hlk (by decide) dX2_readOpened_37 (Nat.le_of_ble_eq_true rfl) (Nat.le_of_ble_eq_true rfl)
theorem rF_X2_readOpened {q0 : Mm → Nat → Int32 → Int32 → Option (Int32 × Mm)} {q1 : Mm → Nat → Int32 → Option (Int32 × Mm)} {q2 : Mm → Nat → Int32 → Option (Int32 × Mm)} {N : Nat} {M : Mm} {a0 : Nat} {a1 : Int32} {r9 : Int32 × Mm} (h : FX2_readOpened q0 q1 q2 N M a0 a1 = some r9) : ∃ fs, M[a0]? = some (.inr (2, fs)) := by
  unfold FX2_readOpened at h
  obtain ⟨_, e1, _⟩ := ob h
  exact gC_spec e1
set_option maxHeartbeats 4000000 in
set_option maxRecDepth 100000 in
theorem wX2_readOperand {p : Program} {l : Launch} {e : Env} {s : State} {m : MethodId} {args : Array Value} {below : List Frame} {meth : Method} {c : Code} {P : PT} {D : Nat} {q0 : Mm → Nat → Int32 → Int32 → Option (Int32 × Mm)} {q1 : Mm → Nat → Int32 → Option (Int32 × Mm)} {q2 : Mm → Nat → Int32 → Option (Int32 × Mm)} {N : Nat}  {r9 : Int32} {M9 : Mm} (hX : Cy p s m args c meth cX2_readOperand 2 RX2 "readOperand" (some .boolean) P) (hq0 : ∀ (M : Mm) (a0 : Nat) (a1 : Int32) (a2 : Int32) (r9 : Int32) (M9 : Mm), q0 M a0 a1 a2 = some (r9, M9) → Ct l yX2_readLevel cX2_readLevel 5 (some .boolean) (6 + D) 0 P [.ref (pB P + a0), .int a1, .int a2] M (some (.int r9)) M9) (hp0 : ∀ (M : Mm) (a0 : Nat) (a1 : Int32) (a2 : Int32) (r9 : Int32 × Mm), q0 M a0 a1 a2 = some r9 → ∃ fs, M[a0]? = some (.inr (2, fs))) (hq1 : ∀ (M : Mm) (a0 : Nat) (a1 : Int32) (r9 : Int32) (M9 : Mm), q1 M a0 a1 = some (r9, M9) → Ct l yX2_readOpened cX2_readOpened 3 (some .boolean) (6 + D) 0 P [.ref (pB P + a0), .int a1] M (some (.int r9)) M9) (hp1 : ∀ (M : Mm) (a0 : Nat) (a1 : Int32) (r9 : Int32 × Mm), q1 M a0 a1 = some r9 → ∃ fs, M[a0]? = some (.inr (2, fs))) (hq2 : ∀ (M : Mm) (a0 : Nat) (a1 : Int32) (r9 : Int32) (M9 : Mm), q2 M a0 a1 = some (r9, M9) → Ct l yX2_readOperand cX2_readOperand 2 (some .boolean) (6 + D) 0 P [.ref (pB P + a0), .int a1] M (some (.int r9)) M9) (hp2 : ∀ (M : Mm) (a0 : Nat) (a1 : Int32) (r9 : Int32 × Mm), q2 M a0 a1 = some r9 → ∃ fs, M[a0]? = some (.inr (2, fs)))  (M : Mm) (a0 : Nat) (a1 : Int32) (h : FX2_readOperand q0 q1 q2 N M a0 a1 = some (r9, M9)) : Wq p l e s m args below meth c (6 + D + 1) 0 (some (.int r9)) M9 2 P 0 0 [(0, .ref (pB P + a0)), (1, .int a1)] [] M := by
  unfold FX2_readOperand at h
  obtain ⟨_, _, h⟩ := ob h
  have hX0 := hX
  obtain ⟨X, hr, hlk, hnm⟩ := hX0
  have hx := X.1.1
  have hb := X.1.2.1
  intro H locs ls hM hl
  refine lv_aload_n (pc := 0) hx hb dX2_readOperand_0 rfl (lv_at hl 0 rfl) ?_
  refine bz_ldcS (pc := 1) X 3 (by decide) rfl rfl dX2_readOperand_1 ?_
  obtain ⟨v2, e1, h⟩ := ob h
  obtain ⟨fs3, hb4⟩ := (rX2_isNextOneOf e1)
  refine bz_callV1 (pc := 3) (As := [.ref (pK P 3)]) (rest := []) X hM hl.1 k_RX2_56 (ctX2_isNextOneOf l e1) rfl hb4 rfl rfl (rm_ok (by omega) (Nat.le_of_ble_eq_true rfl)) (Nat.le_of_ble_eq_true rfl) ⟨(Nat.le_of_ble_eq_true rfl), (Nat.le_of_ble_eq_true rfl)⟩ dX2_readOperand_3 (fun H locs hM => ?_)
  refine lv_if_eq (pc := 6) (tgt := 30) hx hb dX2_readOperand_6 (by decide) (fun hc => ?_) (fun hc => ?_)
  · have h := if_t hc h
    refine lv_aload_n (pc := 30) hx hb dX2_readOperand_30 rfl (lv_at hl 0 rfl) ?_
    refine lv_aload_n (pc := 31) hx hb dX2_readOperand_31 rfl (lv_at hl 0 rfl) ?_
    obtain ⟨q5, e6, h⟩ := ob h
    refine bz_getS (pc := 32) X hM fl_RX2_25 e6 dX2_readOperand_32 ?_
    obtain ⟨v8, e7, h⟩ := ob h
    obtain ⟨fs9, hb10⟩ := (rX2_isNextOneOf e7)
    refine bz_callV1 (pc := 35) (As := [.ref (pK P q5)]) (rest := []) X hM hl.1 k_RX2_56 (ctX2_isNextOneOf l e7) rfl hb10 rfl rfl (rm_ok (by omega) (Nat.le_of_ble_eq_true rfl)) (Nat.le_of_ble_eq_true rfl) ⟨(Nat.le_of_ble_eq_true rfl), (Nat.le_of_ble_eq_true rfl)⟩ dX2_readOperand_35 (fun H locs hM => ?_)
    refine lv_if_eq (pc := 38) (tgt := 82) hx hb dX2_readOperand_38 (by decide) (fun hc => ?_) (fun hc => ?_)
    · have h := if_t hc h
      refine lv_aload_n (pc := 82) hx hb dX2_readOperand_82 rfl (lv_at hl 0 rfl) ?_
      obtain ⟨v12, M13, e11, h⟩ := ob2 h
      obtain ⟨fs14, hb15⟩ := (rX2_readNumber e11)
      refine bz_callV1 (pc := 83) (As := []) (rest := []) X hM hl.1 k_RX2_90 (ctX2_readNumber l e11) rfl hb15 rfl rfl (rm_ok (by omega) (Nat.le_of_ble_eq_true rfl)) (Nat.le_of_ble_eq_true rfl) ⟨(Nat.le_of_ble_eq_true rfl), (Nat.le_of_ble_eq_true rfl)⟩ dX2_readOperand_83 (fun H locs hM => ?_)
      obtain ⟨v16, e17, h⟩ := ob h
      obtain ⟨rfl, rfl⟩ := so2 h
      exact bz_zretz (pc := 86) X hM hr hlk e17 dX2_readOperand_86 (Nat.le_of_ble_eq_true rfl) (Nat.le_of_ble_eq_true rfl)
    · have h := if_f hc h
      refine lv_aload_n (pc := 41) hx hb dX2_readOperand_41 rfl (lv_at hl 0 rfl) ?_
      obtain ⟨q18, e19, h⟩ := ob h
      refine bz_getQ (pc := 42) X hM fl_RX2_14 e19 dX2_readOperand_42 ?_
      refine lv_iconst (pc := 45) (v := (-1 : Int32)) hx hb dX2_readOperand_45 (by decide) ?_
      refine lv_aload_n (pc := 46) hx hb dX2_readOperand_46 rfl (lv_at hl 0 rfl) ?_
      obtain ⟨q20, e21, h⟩ := ob h
      refine bz_getS (pc := 47) X hM fl_RX2_25 e21 dX2_readOperand_47 ?_
      refine lv_aload_n (pc := 50) hx hb dX2_readOperand_50 rfl (lv_at hl 0 rfl) ?_
      obtain ⟨q22, e23, h⟩ := ob h
      refine bz_getQ (pc := 51) X hM fl_RX2_20 e23 dX2_readOperand_51 ?_
      refine lv_aload_n (pc := 54) hx hb dX2_readOperand_54 rfl (lv_at hl 0 rfl) ?_
      obtain ⟨v24, e25, h⟩ := ob h
      refine bz_getI (pc := 55) X hM fl_RX2_36 e25 dX2_readOperand_55 ?_
      obtain ⟨v27, e26, h⟩ := ob h
      obtain ⟨fs28, hb29⟩ := (rX3_at e26)
      refine bz_callV1 (pc := 58) (As := [.int v24]) (rest := [.ref (pK P q20), .int (-1 : Int32), .ref (pB P + q18)]) X hM hl.1 k_RX2_60 (ctX3_at l e26) rfl hb29 rfl rfl (rm_ok (by omega) (Nat.le_of_ble_eq_true rfl)) (Nat.le_of_ble_eq_true rfl) ⟨(Nat.le_of_ble_eq_true rfl), (Nat.le_of_ble_eq_true rfl)⟩ dX2_readOperand_58 (fun H locs hM => ?_)
      refine lv_i2c (pc := 61) (v := (((v27).toUInt32 % 65536).toInt32)) hx hb dX2_readOperand_61 rfl ?_
      obtain ⟨q32, e33, h⟩ := ob h
      obtain ⟨v31, e30, h⟩ := ob h
      refine bz_callT1 (pc := 62) (As := [.int (((v27).toUInt32 % 65536).toInt32)]) (rest := [.int (-1 : Int32), .ref (pB P + q18)]) X hM hl.1 k_RX2_80 e33 (ctJ0_indexOf_0f7a4 l e30) rfl rfl (rm_ok (by omega) (Nat.le_of_ble_eq_true rfl)) (Nat.le_of_ble_eq_true rfl) ⟨(Nat.le_of_ble_eq_true rfl), (Nat.le_of_ble_eq_true rfl)⟩ dX2_readOperand_62 (fun H locs hM => ?_)
      refine lv_isub (pc := 65) hx hb dX2_readOperand_65 ?_
      obtain ⟨v35, M36, e34, h⟩ := ob2 h
      obtain ⟨fs37, hb38⟩ := (rX3_add e34)
      refine bz_callV1 (pc := 66) (As := [.int ((-1 : Int32) - v31)]) (rest := []) X hM hl.1 k_RX2_64 (ctX3_add l e34) rfl hb38 rfl rfl (rm_ok (by omega) (Nat.le_of_ble_eq_true rfl)) (Nat.le_of_ble_eq_true rfl) ⟨(Nat.le_of_ble_eq_true rfl), (Nat.le_of_ble_eq_true rfl)⟩ dX2_readOperand_66 (fun H locs hM => ?_)
      refine lv_pop (pc := 69) hx hb dX2_readOperand_69 rfl ?_
      refine lv_aload_n (pc := 70) hx hb dX2_readOperand_70 rfl (lv_at hl 0 rfl) ?_
      refine lv_dup (pc := 71) hx hb dX2_readOperand_71 rfl ?_
      obtain ⟨v39, e40, h⟩ := ob h
      refine bz_getI (pc := 72) X hM fl_RX2_36 e40 dX2_readOperand_72 ?_
      refine lv_iconst (pc := 75) (v := (1 : Int32)) hx hb dX2_readOperand_75 (by decide) ?_
      refine lv_iadd (pc := 76) hx hb dX2_readOperand_76 ?_
      obtain ⟨M41, e42, h⟩ := ob h
      refine bz_putI (pc := 77) X hM fp_RX2_36 (Or.inl rfl) e42 dX2_readOperand_77 (fun H locs hM => ?_)
      refine lv_iconst (pc := 80) (v := (1 : Int32)) hx hb dX2_readOperand_80 (by decide) ?_
      obtain ⟨rfl, rfl⟩ := so2 h
      exact bz_zret (pc := 81) X hM hr hlk (by decide) dX2_readOperand_81 (Nat.le_of_ble_eq_true rfl) (Nat.le_of_ble_eq_true rfl)
  · have h := if_f hc h
    refine lv_iload_n (pc := 9) hx hb dX2_readOperand_9 rfl (lv_at hl 1 rfl) ?_
    refine lv_iconst (pc := 10) (v := (5 : Int32)) hx hb dX2_readOperand_10 (by decide) ?_
    refine lv_icmp_ge (pc := 11) (tgt := 28) hx hb dX2_readOperand_11 (by decide) (fun hc => ?_) (fun hc => ?_)
    · have h := if_t hc h
      refine lv_iconst (pc := 28) (v := (0 : Int32)) hx hb dX2_readOperand_28 (by decide) ?_
      obtain ⟨rfl, rfl⟩ := so2 h
      exact bz_zret (pc := 29) X hM hr hlk (by decide) dX2_readOperand_29 (Nat.le_of_ble_eq_true rfl) (Nat.le_of_ble_eq_true rfl)
    · have h := if_f hc h
      refine lv_aload_n (pc := 14) hx hb dX2_readOperand_14 rfl (lv_at hl 0 rfl) ?_
      refine lv_iload_n (pc := 15) hx hb dX2_readOperand_15 rfl (lv_at hl 1 rfl) ?_
      refine lv_iconst (pc := 16) (v := (1 : Int32)) hx hb dX2_readOperand_16 (by decide) ?_
      refine lv_iadd (pc := 17) hx hb dX2_readOperand_17 ?_
      obtain ⟨v44, M45, e43, h⟩ := ob2 h
      obtain ⟨fs46, hb47⟩ := (hp1 _ _ _ _ e43)
      refine bz_callV1 (pc := 18) (As := [.int (a1 + (1 : Int32))]) (rest := []) X hM hl.1 k_RX2_87 (hq1 _ _ _ _ _ e43) rfl hb47 rfl rfl (rm_ok (by omega) (Nat.le_of_ble_eq_true rfl)) (Nat.le_of_ble_eq_true rfl) ⟨(Nat.le_of_ble_eq_true rfl), (Nat.le_of_ble_eq_true rfl)⟩ dX2_readOperand_18 (fun H locs hM => ?_)
      refine lv_if_eq (pc := 21) (tgt := 28) hx hb dX2_readOperand_21 (by decide) (fun hc => ?_) (fun hc => ?_)
      · have h := if_t hc h
        refine lv_iconst (pc := 28) (v := (0 : Int32)) hx hb dX2_readOperand_28 (by decide) ?_
        obtain ⟨rfl, rfl⟩ := so2 h
        exact bz_zret (pc := 29) X hM hr hlk (by decide) dX2_readOperand_29 (Nat.le_of_ble_eq_true rfl) (Nat.le_of_ble_eq_true rfl)
      · have h := if_f hc h
        refine lv_iconst (pc := 24) (v := (1 : Int32)) hx hb dX2_readOperand_24 (by decide) ?_
        refine lv_goto (pc := 25) (tgt := 29) hx hb dX2_readOperand_25 (by decide) ?_
        obtain ⟨rfl, rfl⟩ := so2 h
        exact bz_zret (pc := 29) X hM hr hlk (by decide) dX2_readOperand_29 (Nat.le_of_ble_eq_true rfl) (Nat.le_of_ble_eq_true rfl)
theorem rF_X2_readOperand {q0 : Mm → Nat → Int32 → Int32 → Option (Int32 × Mm)} {q1 : Mm → Nat → Int32 → Option (Int32 × Mm)} {q2 : Mm → Nat → Int32 → Option (Int32 × Mm)} {N : Nat} {M : Mm} {a0 : Nat} {a1 : Int32} {r9 : Int32 × Mm} (h : FX2_readOperand q0 q1 q2 N M a0 a1 = some r9) : ∃ fs, M[a0]? = some (.inr (2, fs)) := by
  unfold FX2_readOperand at h
  obtain ⟨_, e1, _⟩ := ob h
  exact gC_spec e1
set_option maxHeartbeats 4000000 in
set_option maxRecDepth 100000 in
theorem rGX2_readLevel (N : Nat) : ∀ n : Nat, (∀ (M : Mm) (a0 : Nat) (a1 : Int32) (a2 : Int32) (r9 : Int32 × Mm), (GX2_readLevel N n).1 M a0 a1 a2 = some r9 → ∃ fs, M[a0]? = some (.inr (2, fs))) ∧
    (∀ (M : Mm) (a0 : Nat) (a1 : Int32) (r9 : Int32 × Mm), (GX2_readLevel N n).2.1 M a0 a1 = some r9 → ∃ fs, M[a0]? = some (.inr (2, fs))) ∧
    (∀ (M : Mm) (a0 : Nat) (a1 : Int32) (r9 : Int32 × Mm), (GX2_readLevel N n).2.2 M a0 a1 = some r9 → ∃ fs, M[a0]? = some (.inr (2, fs))) := by
  intro n
  cases n with
  | zero => exact ⟨(fun _ _ _ _ _ h => nomatch h), (fun _ _ _ _ h => nomatch h), (fun _ _ _ _ h => nomatch h)⟩
  | succ n => exact ⟨(fun _ _ _ _ _ h => rF_X2_readLevel (N := N) (q0 := (GX2_readLevel N n).1) (q1 := (GX2_readLevel N n).2.1) (q2 := (GX2_readLevel N n).2.2) h), (fun _ _ _ _ h => rF_X2_readOpened (N := N) (q0 := (GX2_readLevel N n).1) (q1 := (GX2_readLevel N n).2.1) (q2 := (GX2_readLevel N n).2.2) h), (fun _ _ _ _ h => rF_X2_readOperand (N := N) (q0 := (GX2_readLevel N n).1) (q1 := (GX2_readLevel N n).2.1) (q2 := (GX2_readLevel N n).2.2) h)⟩
set_option maxHeartbeats 4000000 in
set_option maxRecDepth 100000 in
theorem cGX2_readLevel (l : Launch) {P : PT} (N : Nat) : ∀ n : Nat, (∀ (M : Mm) (a0 : Nat) (a1 : Int32) (a2 : Int32) (r9 : Int32) (M9 : Mm), (GX2_readLevel N n).1 M a0 a1 a2 = some (r9, M9) → Ct l yX2_readLevel cX2_readLevel 5 (some .boolean) (6 + n) 0 P [.ref (pB P + a0), .int a1, .int a2] M (some (.int r9)) M9) ∧
    (∀ (M : Mm) (a0 : Nat) (a1 : Int32) (r9 : Int32) (M9 : Mm), (GX2_readLevel N n).2.1 M a0 a1 = some (r9, M9) → Ct l yX2_readOpened cX2_readOpened 3 (some .boolean) (6 + n) 0 P [.ref (pB P + a0), .int a1] M (some (.int r9)) M9) ∧
    (∀ (M : Mm) (a0 : Nat) (a1 : Int32) (r9 : Int32) (M9 : Mm), (GX2_readLevel N n).2.2 M a0 a1 = some (r9, M9) → Ct l yX2_readOperand cX2_readOperand 2 (some .boolean) (6 + n) 0 P [.ref (pB P + a0), .int a1] M (some (.int r9)) M9) := by
  intro n
  induction n with
  | zero => exact ⟨(fun _ _ _ _ _ _ h => nomatch h), (fun _ _ _ _ _ h => nomatch h), (fun _ _ _ _ _ h => nomatch h)⟩
  | succ n ih =>
    obtain ⟨hq0, hq1, hq2⟩ := ih
    obtain ⟨hp0, hp1, hp2⟩ := rGX2_readLevel N n
    exact ⟨(fun M a0 a1 a2 _ _ h => Ct.mk (by decide +kernel) (Nat.le_of_ble_eq_true rfl) (fun p e s m args below meth c hX => wX2_readLevel (D := n) (N := N) hX hq0 hp0 hq1 hp1 hq2 hp2 M a0 a1 a2 h)),
      (fun M a0 a1 _ _ h => Ct.mk (by decide +kernel) (Nat.le_of_ble_eq_true rfl) (fun p e s m args below meth c hX => wX2_readOpened (D := n) (N := N) hX hq0 hp0 hq1 hp1 hq2 hp2 M a0 a1 h)),
      (fun M a0 a1 _ _ h => Ct.mk (by decide +kernel) (Nat.le_of_ble_eq_true rfl) (fun p e s m args below meth c hX => wX2_readOperand (D := n) (N := N) hX hq0 hp0 hq1 hp1 hq2 hp2 M a0 a1 h))⟩
theorem ctX2_readLevel (l : Launch) {P : PT} {N : Nat} {M : Mm} {a0 : Nat} {a1 : Int32} {a2 : Int32} {r9 : Int32} {M9 : Mm} (h : fX2_readLevel N M a0 a1 a2 = some (r9, M9)) : Ct l yX2_readLevel cX2_readLevel 5 (some .boolean) 106 0 P [.ref (pB P + a0), .int a1, .int a2] M (some (.int r9)) M9 := (cGX2_readLevel l N 100).1 _ _ _ _ _ _ h
theorem rX2_readLevel {N : Nat} {M : Mm} {a0 : Nat} {a1 : Int32} {a2 : Int32} {r9 : Int32 × Mm} (h : fX2_readLevel N M a0 a1 a2 = some r9) : ∃ fs, M[a0]? = some (.inr (2, fs)) := (rGX2_readLevel N 100).1 _ _ _ _ _ h
theorem ctX2_readOpened (l : Launch) {P : PT} {N : Nat} {M : Mm} {a0 : Nat} {a1 : Int32} {r9 : Int32} {M9 : Mm} (h : fX2_readOpened N M a0 a1 = some (r9, M9)) : Ct l yX2_readOpened cX2_readOpened 3 (some .boolean) 106 0 P [.ref (pB P + a0), .int a1] M (some (.int r9)) M9 := (cGX2_readLevel l N 100).2.1 _ _ _ _ _ h
theorem rX2_readOpened {N : Nat} {M : Mm} {a0 : Nat} {a1 : Int32} {r9 : Int32 × Mm} (h : fX2_readOpened N M a0 a1 = some r9) : ∃ fs, M[a0]? = some (.inr (2, fs)) := (rGX2_readLevel N 100).2.1 _ _ _ _ h
theorem ctX2_readOperand (l : Launch) {P : PT} {N : Nat} {M : Mm} {a0 : Nat} {a1 : Int32} {r9 : Int32} {M9 : Mm} (h : fX2_readOperand N M a0 a1 = some (r9, M9)) : Ct l yX2_readOperand cX2_readOperand 2 (some .boolean) 106 0 P [.ref (pB P + a0), .int a1] M (some (.int r9)) M9 := (cGX2_readLevel l N 100).2.2 _ _ _ _ _ h
theorem rX2_readOperand {N : Nat} {M : Mm} {a0 : Nat} {a1 : Int32} {r9 : Int32 × Mm} (h : fX2_readOperand N M a0 a1 = some r9) : ∃ fs, M[a0]? = some (.inr (2, fs)) := (rGX2_readLevel N 100).2.2 _ _ _ _ h
set_option maxHeartbeats 4000000 in
set_option maxRecDepth 100000 in
theorem wjX2_read_53 {p : Program} {l : Launch} {e : Env} {s : State} {m : MethodId} {args : Array Value} {below : List Frame} {meth : Method} {c : Code} {P : PT} {N : Nat}  {r9 : Int32} {M9 : Mm} (hX : Cy p s m args c meth cX2_read 4 RX2 "read" (some .int) P)   (M : Mm) (x0 : Nat) (s0 : Int32) (h : jX2_read_53 N M x0 s0 = some (r9, M9)) : Wq p l e s m args below meth c 107 0 (some (.int r9)) M9 4 P 0 53 [(0, .ref (pB P + x0))] [.int s0] M := by
  unfold jX2_read_53 at h
  have hX0 := hX
  obtain ⟨X, hr, hlk, hnm⟩ := hX0
  have hx := X.1.1
  have hb := X.1.2.1
  intro H locs ls hM hl
  refine lv_istore_n (pc := 53) (lv' := [(3, .int s0), (0, .ref (pB P + x0))]) hx hb dX2_read_53 rfl hl (by decide) rfl (fun ls hl => ?_)
  refine lv_iload_n (pc := 54) hx hb dX2_read_54 rfl (lv_at hl 0 rfl) ?_
  refine lv_if_eq (pc := 55) (tgt := 62) hx hb dX2_read_55 (by decide) (fun hc => ?_) (fun hc => ?_)
  · have h := if_t hc h
    refine lv_aload_n (pc := 62) hx hb dX2_read_62 rfl (lv_at hl 1 rfl) ?_
    obtain ⟨v1, e2, h⟩ := ob h
    refine bz_getI (pc := 63) X hM fl_RX2_36 e2 dX2_read_63 ?_
    obtain ⟨rfl, rfl⟩ := so2 h
    exact bz_iret (pc := 66) X hM hr hlk dX2_read_66 (Nat.le_of_ble_eq_true rfl) (Nat.le_of_ble_eq_true rfl)
  · have h := if_f hc h
    refine lv_iconst (pc := 58) (v := (-1 : Int32)) hx hb dX2_read_58 (by decide) ?_
    refine lv_goto (pc := 59) (tgt := 66) hx hb dX2_read_59 (by decide) ?_
    obtain ⟨rfl, rfl⟩ := so2 h
    exact bz_iret (pc := 66) X hM hr hlk dX2_read_66 (Nat.le_of_ble_eq_true rfl) (Nat.le_of_ble_eq_true rfl)
set_option maxHeartbeats 4000000 in
set_option maxRecDepth 100000 in
theorem wjX2_read_52 {p : Program} {l : Launch} {e : Env} {s : State} {m : MethodId} {args : Array Value} {below : List Frame} {meth : Method} {c : Code} {P : PT} {N : Nat}  {r9 : Int32} {M9 : Mm} (hX : Cy p s m args c meth cX2_read 4 RX2 "read" (some .int) P)   (M : Mm) (x0 : Nat)  (h : jX2_read_52 N M x0 = some (r9, M9)) : Wq p l e s m args below meth c 107 0 (some (.int r9)) M9 4 P 0 52 [(0, .ref (pB P + x0))] [] M := by
  unfold jX2_read_52 at h
  have hX0 := hX
  obtain ⟨X, hr, hlk, hnm⟩ := hX0
  have hx := X.1.1
  have hb := X.1.2.1
  intro H locs ls hM hl
  refine lv_iconst (pc := 52) (v := (0 : Int32)) hx hb dX2_read_52 (by decide) ?_
  exact wjX2_read_53 hX _ _ _ h H locs ls hM (lv_sub hl [0] rfl)
set_option maxHeartbeats 4000000 in
set_option maxRecDepth 100000 in
theorem wX2_read {p : Program} {l : Launch} {e : Env} {s : State} {m : MethodId} {args : Array Value} {below : List Frame} {meth : Method} {c : Code} {P : PT} {N : Nat}  {r9 : Int32} {M9 : Mm} (hX : Cy p s m args c meth cX2_read 4 RX2 "read" (some .int) P)  (M : Mm) (a0 : Nat) (a1 : Nat) (a2 : Nat) (h : fX2_read N M a0 a1 a2 = some (r9, M9)) : Wq p l e s m args below meth c 107 0 (some (.int r9)) M9 4 P 0 0 [(0, .ref (pB P + a0)), (1, .ref (pB P + a1)), (2, .ref (pK P a2))] [] M := by
  unfold fX2_read at h
  obtain ⟨_, _, h⟩ := ob h
  have hX0 := hX
  obtain ⟨X, hr, hlk, hnm⟩ := hX0
  have hx := X.1.1
  have hb := X.1.2.1
  intro H locs ls hM hl
  refine lv_aload_n (pc := 0) hx hb dX2_read_0 rfl (lv_at hl 0 rfl) ?_
  obtain ⟨q1, e2, h⟩ := ob h
  refine bz_getQ (pc := 1) X hM fl_RX2_14 e2 dX2_read_1 ?_
  obtain ⟨M4, e3, h⟩ := ob h
  obtain ⟨fs5, hb6⟩ := (rX3_clear e3)
  refine bz_callV0 (pc := 4) (As := []) (rest := []) X hM hl.1 k_RX2_29 (ctX3_clear l e3) rfl hb6 rfl rfl ⟨(Nat.le_of_ble_eq_true rfl), (Nat.le_of_ble_eq_true rfl)⟩ (Nat.le_of_ble_eq_true rfl) ⟨(Nat.le_of_ble_eq_true rfl), (Nat.le_of_ble_eq_true rfl)⟩ dX2_read_4 (fun H locs hM => ?_)
  refine lv_aload_n (pc := 7) hx hb dX2_read_7 rfl (lv_at hl 0 rfl) ?_
  obtain ⟨q7, e8, h⟩ := ob h
  refine bz_getQ (pc := 8) X hM fl_RX2_20 e8 dX2_read_8 ?_
  refine lv_aload_n (pc := 11) hx hb dX2_read_11 rfl (lv_at hl 1 rfl) ?_
  obtain ⟨M10, e9, h⟩ := ob h
  obtain ⟨fs11, hb12⟩ := (rX3_become e9)
  refine bz_callV0 (pc := 12) (As := [.ref (pB P + a1)]) (rest := []) X hM hl.1 k_RX2_32 (ctX3_become l e9) rfl hb12 rfl rfl ⟨(Nat.le_of_ble_eq_true rfl), (Nat.le_of_ble_eq_true rfl)⟩ (Nat.le_of_ble_eq_true rfl) ⟨(Nat.le_of_ble_eq_true rfl), (Nat.le_of_ble_eq_true rfl)⟩ dX2_read_12 (fun H locs hM => ?_)
  refine lv_aload_n (pc := 15) hx hb dX2_read_15 rfl (lv_at hl 0 rfl) ?_
  refine lv_aload_n (pc := 16) hx hb dX2_read_16 rfl (lv_at hl 2 rfl) ?_
  obtain ⟨q15, e16, h⟩ := ob h
  obtain ⟨M13, e14, h⟩ := ob h
  refine bz_putS (pc := 17) X hM fp_RX2_25 rfl (Or.inl rfl) (sK_spec e16) e14 dX2_read_17 (fun H locs hM => ?_)
  refine lv_aload_n (pc := 20) hx hb dX2_read_20 rfl (lv_at hl 0 rfl) ?_
  refine lv_iconst (pc := 21) (v := (0 : Int32)) hx hb dX2_read_21 (by decide) ?_
  obtain ⟨M17, e18, h⟩ := ob h
  refine bz_putI (pc := 22) X hM fp_RX2_36 (Or.inl rfl) e18 dX2_read_22 (fun H locs hM => ?_)
  refine lv_aload_n (pc := 25) hx hb dX2_read_25 rfl (lv_at hl 0 rfl) ?_
  refine lv_iconst (pc := 26) (v := (0 : Int32)) hx hb dX2_read_26 (by decide) ?_
  refine lv_iconst (pc := 27) (v := (0 : Int32)) hx hb dX2_read_27 (by decide) ?_
  obtain ⟨v20, M21, e19, h⟩ := ob2 h
  obtain ⟨fs22, hb23⟩ := (rX2_readLevel e19)
  refine bz_callV1 (pc := 28) (As := [.int (0 : Int32), .int (0 : Int32)]) (rest := []) X hM hl.1 k_RX2_40 (ctX2_readLevel l e19) rfl hb23 rfl rfl ⟨(Nat.le_of_ble_eq_true rfl), (Nat.le_of_ble_eq_true rfl)⟩ (Nat.le_of_ble_eq_true rfl) ⟨(Nat.le_of_ble_eq_true rfl), (Nat.le_of_ble_eq_true rfl)⟩ dX2_read_28 (fun H locs hM => ?_)
  refine lv_if_eq (pc := 31) (tgt := 52) hx hb dX2_read_31 (by decide) (fun hc => ?_) (fun hc => ?_)
  · have h := if_t hc h
    exact wjX2_read_52 hX _ _ h H locs ls hM (lv_sub hl [0] rfl)
  · have h := if_f hc h
    refine lv_aload_n (pc := 34) hx hb dX2_read_34 rfl (lv_at hl 0 rfl) ?_
    obtain ⟨v24, e25, h⟩ := ob h
    refine bz_getI (pc := 35) X hM fl_RX2_36 e25 dX2_read_35 ?_
    refine lv_aload_n (pc := 38) hx hb dX2_read_38 rfl (lv_at hl 0 rfl) ?_
    obtain ⟨q26, e27, h⟩ := ob h
    refine bz_getQ (pc := 39) X hM fl_RX2_20 e27 dX2_read_39 ?_
    obtain ⟨v29, e28, h⟩ := ob h
    obtain ⟨fs30, hb31⟩ := (rX3_size e28)
    refine bz_callV1 (pc := 42) (As := []) (rest := [.int v24]) X hM hl.1 k_RX2_44 (ctX3_size l e28) rfl hb31 rfl rfl ⟨(Nat.le_of_ble_eq_true rfl), (Nat.le_of_ble_eq_true rfl)⟩ (Nat.le_of_ble_eq_true rfl) ⟨(Nat.le_of_ble_eq_true rfl), (Nat.le_of_ble_eq_true rfl)⟩ dX2_read_42 (fun H locs hM => ?_)
    refine lv_icmp_ne (pc := 45) (tgt := 52) hx hb dX2_read_45 (by decide) (fun hc => ?_) (fun hc => ?_)
    · have h := if_f hc h
      exact wjX2_read_52 hX _ _ h H locs ls hM (lv_sub hl [0] rfl)
    · have h := if_t hc h
      refine lv_iconst (pc := 48) (v := (1 : Int32)) hx hb dX2_read_48 (by decide) ?_
      refine lv_goto (pc := 49) (tgt := 53) hx hb dX2_read_49 (by decide) ?_
      exact wjX2_read_53 hX _ _ _ h H locs ls hM (lv_sub hl [0] rfl)
theorem rX2_read {N : Nat} {M : Mm} {a0 : Nat} {a1 : Nat} {a2 : Nat} {r9 : Int32 × Mm} (h : fX2_read N M a0 a1 a2 = some r9) : ∃ fs, M[a0]? = some (.inr (2, fs)) := by
  unfold fX2_read at h
  obtain ⟨_, e1, _⟩ := ob h
  exact gC_spec e1
theorem ctX2_read (l : Launch) {P : PT} {N : Nat} {M : Mm} {a0 : Nat} {a1 : Nat} {a2 : Nat} {r9 : Int32} {M9 : Mm} (h : fX2_read N M a0 a1 a2 = some (r9, M9)) : Ct l yX2_read cX2_read 4 (some .int) 107 0 P [.ref (pB P + a0), .ref (pB P + a1), .ref (pK P a2)] M (some (.int r9)) M9 :=
  Ct.mk (by decide +kernel) (Nat.le_of_ble_eq_true rfl) (fun p e s m args below meth c hX => wX2_read hX M a0 a1 a2 h)
set_option maxHeartbeats 4000000 in
set_option maxRecDepth 100000 in
theorem wX8_init {p : Program} {l : Launch} {e : Env} {s : State} {m : MethodId} {args : Array Value} {below : List Frame} {meth : Method} {c : Code} {P : PT}  {M9 : Mm} (hX : Cy p s m args c meth cX8_init 2 RX8 "<init>" none P)  (M : Mm) (a0 : Nat) (a1 : Nat) (h : fX8_init M a0 a1 = some M9) : Wq p l e s m args below meth c 2 4 none M9 2 P 0 0 [(0, .ref (pB P + a0)), (1, .ref (pB P + a1))] [] M := by
  unfold fX8_init at h
  have hX0 := hX
  obtain ⟨X, hr, hlk, hnm⟩ := hX0
  have hx := X.1.1
  have hb := X.1.2.1
  intro H locs ls hM hl
  refine lv_aload_n (pc := 0) hx hb dX8_init_0 rfl (lv_at hl 0 rfl) ?_
  refine bz_obj (pc := 1) X hl.1 g_714 m_oi m_oc (Nat.le_of_ble_eq_true rfl) (Nat.le_of_ble_eq_true rfl) dX8_init_1 ?_
  refine lv_aload_n (pc := 4) hx hb dX8_init_4 rfl (lv_at hl 0 rfl) ?_
  obtain ⟨M1, e2, h⟩ := ob h
  cases e2
  refine bz_new (pc := 5) X hM cfX3 g_715 g_114 g_82 [.null, .int 0] (fun j hj => by rcases (show j = 0 ∨ j = 1 by omega) with rfl | rfl <;> rfl) rfl (Nat.le_of_ble_eq_true rfl) (Nat.le_of_ble_eq_true rfl) dX8_init_5 (fun H hM => ?_)
  refine lv_dup (pc := 8) hx hb dX8_init_8 rfl ?_
  refine lv_aload_n (pc := 9) hx hb dX8_init_9 rfl (lv_at hl 1 rfl) ?_
  obtain ⟨v4, e3, h⟩ := ob h
  obtain ⟨fs5, hb6⟩ := (rX3_size e3)
  refine bz_callV1 (pc := 10) (As := []) (rest := [.ref (pB P + M.length), .ref (pB P + M.length), .ref (pB P + a0)]) X hM hl.1 k_RX8_9 (ctX3_size l e3) rfl hb6 rfl rfl ⟨(Nat.le_of_ble_eq_true rfl), (Nat.le_of_ble_eq_true rfl)⟩ (Nat.le_of_ble_eq_true rfl) ⟨(Nat.le_of_ble_eq_true rfl), (Nat.le_of_ble_eq_true rfl)⟩ dX8_init_10 (fun H locs hM => ?_)
  obtain ⟨M8, e7, h⟩ := ob h
  refine bz_callI (pc := 13) (As := [.int v4]) (rest := [.ref (pB P + M.length), .ref (pB P + a0)]) X hM hl.1 k_RX8_13 (ctX3_init l e7) rfl rfl ⟨(Nat.le_of_ble_eq_true rfl), (Nat.le_of_ble_eq_true rfl)⟩ (Nat.le_of_ble_eq_true rfl) ⟨(Nat.le_of_ble_eq_true rfl), (Nat.le_of_ble_eq_true rfl)⟩ dX8_init_13 (fun H locs hM => ?_)
  obtain ⟨M9, e10, h⟩ := ob h
  refine bz_putQ (pc := 16) X hM fp_RX8_16 rfl (Or.inr hnm) e10 dX8_init_16 (fun H locs hM => ?_)
  refine lv_aload_n (pc := 19) hx hb dX8_init_19 rfl (lv_at hl 0 rfl) ?_
  obtain ⟨q11, e12, h⟩ := ob h
  refine bz_getQ (pc := 20) X hM fl_RX8_16 e12 dX8_init_20 ?_
  refine lv_aload_n (pc := 23) hx hb dX8_init_23 rfl (lv_at hl 1 rfl) ?_
  obtain ⟨M14, e13, h⟩ := ob h
  obtain ⟨fs15, hb16⟩ := (rX3_become e13)
  refine bz_callV0 (pc := 24) (As := [.ref (pB P + a1)]) (rest := []) X hM hl.1 k_RX8_22 (ctX3_become l e13) rfl hb16 rfl rfl ⟨(Nat.le_of_ble_eq_true rfl), (Nat.le_of_ble_eq_true rfl)⟩ (Nat.le_of_ble_eq_true rfl) ⟨(Nat.le_of_ble_eq_true rfl), (Nat.le_of_ble_eq_true rfl)⟩ dX8_init_24 (fun H locs hM => ?_)
  refine lv_aload_n (pc := 27) hx hb dX8_init_27 rfl (lv_at hl 0 rfl) ?_
  obtain ⟨M17, e18, h⟩ := ob h
  cases e18
  refine bz_new (pc := 28) X hM cfX3 g_715 g_114 g_82 [.null, .int 0] (fun j hj => by rcases (show j = 0 ∨ j = 1 by omega) with rfl | rfl <;> rfl) rfl (Nat.le_of_ble_eq_true rfl) (Nat.le_of_ble_eq_true rfl) dX8_init_28 (fun H hM => ?_)
  refine lv_dup (pc := 31) hx hb dX8_init_31 rfl ?_
  refine lv_aload_n (pc := 32) hx hb dX8_init_32 rfl (lv_at hl 1 rfl) ?_
  obtain ⟨v20, e19, h⟩ := ob h
  obtain ⟨fs21, hb22⟩ := (rX3_size e19)
  refine bz_callV1 (pc := 33) (As := []) (rest := [.ref (pB P + M14.length), .ref (pB P + M14.length), .ref (pB P + a0)]) X hM hl.1 k_RX8_9 (ctX3_size l e19) rfl hb22 rfl rfl ⟨(Nat.le_of_ble_eq_true rfl), (Nat.le_of_ble_eq_true rfl)⟩ (Nat.le_of_ble_eq_true rfl) ⟨(Nat.le_of_ble_eq_true rfl), (Nat.le_of_ble_eq_true rfl)⟩ dX8_init_33 (fun H locs hM => ?_)
  obtain ⟨M24, e23, h⟩ := ob h
  refine bz_callI (pc := 36) (As := [.int v20]) (rest := [.ref (pB P + M14.length), .ref (pB P + a0)]) X hM hl.1 k_RX8_13 (ctX3_init l e23) rfl rfl ⟨(Nat.le_of_ble_eq_true rfl), (Nat.le_of_ble_eq_true rfl)⟩ (Nat.le_of_ble_eq_true rfl) ⟨(Nat.le_of_ble_eq_true rfl), (Nat.le_of_ble_eq_true rfl)⟩ dX8_init_36 (fun H locs hM => ?_)
  obtain ⟨M25, e26, h⟩ := ob h
  refine bz_putQ (pc := 39) X hM fp_RX8_26 rfl (Or.inr hnm) e26 dX8_init_39 (fun H locs hM => ?_)
  obtain rfl := so1 h
  exact bz_vret (pc := 42) X hM hr hlk dX8_init_42 (Nat.le_of_ble_eq_true rfl) (Nat.le_of_ble_eq_true rfl)
theorem ctX8_init (l : Launch) {P : PT} {M : Mm} {a0 : Nat} {a1 : Nat} {M9 : Mm} (h : fX8_init M a0 a1 = some M9) : Ct l yX8_init cX8_init 2 none 2 4 P [.ref (pB P + a0), .ref (pB P + a1)] M none M9 :=
  Ct.mk (by decide +kernel) (Nat.le_of_ble_eq_true rfl) (fun p e s m args below meth c hX => wX8_init hX M a0 a1 h)
set_option maxHeartbeats 4000000 in
set_option maxRecDepth 100000 in
theorem wX6_setText {p : Program} {l : Launch} {e : Env} {s : State} {m : MethodId} {args : Array Value} {below : List Frame} {meth : Method} {c : Code} {P : PT}  {M9 : Mm} (hX : Cy p s m args c meth cX6_setText 3 RX6 "setText" none P)  (M : Mm) (a0 : Nat) (a1 : Int32) (a2 : Nat) (h : fX6_setText M a0 a1 a2 = some M9) : Wq p l e s m args below meth c 0 0 none M9 3 P 0 0 [(0, .ref (pB P + a0)), (1, .int a1), (2, .ref (pB P + a2))] [] M := by
  unfold fX6_setText at h
  obtain ⟨_, _, h⟩ := ob h
  have hX0 := hX
  obtain ⟨X, hr, hlk, hnm⟩ := hX0
  have hx := X.1.1
  have hb := X.1.2.1
  intro H locs ls hM hl
  refine lv_iload_n (pc := 0) hx hb dX6_setText_0 rfl (lv_at hl 1 rfl) ?_
  refine lv_if_lt (pc := 1) (tgt := 20) hx hb dX6_setText_1 (by decide) (fun hc => ?_) (fun hc => ?_)
  · have h := if_t hc h
    obtain rfl := so1 h
    exact bz_vret (pc := 20) X hM hr hlk dX6_setText_20 (Nat.le_of_ble_eq_true rfl) (Nat.le_of_ble_eq_true rfl)
  · have h := if_f hc h
    refine lv_iload_n (pc := 4) hx hb dX6_setText_4 rfl (lv_at hl 1 rfl) ?_
    refine lv_aload_n (pc := 5) hx hb dX6_setText_5 rfl (lv_at hl 0 rfl) ?_
    obtain ⟨q1, e2, h⟩ := ob h
    refine bz_getQ (pc := 6) X hM fl_RX6_37 e2 dX6_setText_6 ?_
    obtain ⟨v3, e4, h⟩ := ob h
    refine bz_alen (pc := 9) X hM e4 dX6_setText_9 ?_
    refine lv_icmp_ge (pc := 10) (tgt := 20) hx hb dX6_setText_10 (by decide) (fun hc => ?_) (fun hc => ?_)
    · have h := if_t hc h
      obtain rfl := so1 h
      exact bz_vret (pc := 20) X hM hr hlk dX6_setText_20 (Nat.le_of_ble_eq_true rfl) (Nat.le_of_ble_eq_true rfl)
    · have h := if_f hc h
      refine lv_aload_n (pc := 13) hx hb dX6_setText_13 rfl (lv_at hl 0 rfl) ?_
      obtain ⟨q5, e6, h⟩ := ob h
      refine bz_getQ (pc := 14) X hM fl_RX6_37 e6 dX6_setText_14 ?_
      refine lv_iload_n (pc := 17) hx hb dX6_setText_17 rfl (lv_at hl 1 rfl) ?_
      refine lv_aload_n (pc := 18) hx hb dX6_setText_18 rfl (lv_at hl 2 rfl) ?_
      obtain ⟨M7, e8, h⟩ := ob h
      refine bz_aast (pc := 19) (t := 2) (ci := 8) (r := (some a2)) X hM ⟨by decide, rfl, rfl⟩ e8 dX6_setText_19 (fun H locs hM => ?_)
      obtain rfl := so1 h
      exact bz_vret (pc := 20) X hM hr hlk dX6_setText_20 (Nat.le_of_ble_eq_true rfl) (Nat.le_of_ble_eq_true rfl)
theorem rX6_setText {M : Mm} {a0 : Nat} {a1 : Int32} {a2 : Nat} {r9 : Mm} (h : fX6_setText M a0 a1 a2 = some r9) : ∃ fs, M[a0]? = some (.inr (6, fs)) := by
  unfold fX6_setText at h
  obtain ⟨_, e1, _⟩ := ob h
  exact gC_spec e1
theorem ctX6_setText (l : Launch) {P : PT} {M : Mm} {a0 : Nat} {a1 : Int32} {a2 : Nat} {M9 : Mm} (h : fX6_setText M a0 a1 a2 = some M9) : Ct l yX6_setText cX6_setText 3 none 0 0 P [.ref (pB P + a0), .int a1, .ref (pB P + a2)] M none M9 :=
  Ct.mk (by decide +kernel) (Nat.le_of_ble_eq_true rfl) (fun p e s m args below meth c hX => wX6_setText hX M a0 a1 a2 h)
set_option maxHeartbeats 4000000 in
set_option maxRecDepth 100000 in
theorem wjX10_text_39 {p : Program} {l : Launch} {e : Env} {s : State} {m : MethodId} {args : Array Value} {below : List Frame} {meth : Method} {c : Code} {P : PT} {N : Nat}  {r9 : Int32} {M9 : Mm} (hX : Cy p s m args c meth cX10_text 3 RX10 "text" (some .int) P)   (M : Mm) (x0 : Nat) (x1 : Int32) (s0 : Nat) (s1 : Nat) (s2 : Nat) (h : jX10_text_39 N M x0 x1 s0 s1 s2 = some (r9, M9)) : Wq p l e s m args below meth c 108 5 (some (.int r9)) M9 3 P 0 39 [(0, .ref (pB P + x0)), (1, .int x1)] [.ref (pK P s2), .ref (pB P + s1), .ref (pB P + s0)] M := by
  unfold jX10_text_39 at h
  have hX0 := hX
  obtain ⟨X, hr, hlk, hnm⟩ := hX0
  have hx := X.1.1
  have hb := X.1.2.1
  intro H locs ls hM hl
  obtain ⟨v2, M3, e1, h⟩ := ob2 h
  obtain ⟨fs4, hb5⟩ := (rX2_read e1)
  refine bz_callV1 (pc := 39) (As := [.ref (pB P + s1), .ref (pK P s2)]) (rest := []) X hM hl.1 k_RX10_185 (ctX2_read l e1) rfl hb5 rfl rfl ⟨(Nat.le_of_ble_eq_true rfl), (Nat.le_of_ble_eq_true rfl)⟩ (Nat.le_of_ble_eq_true rfl) ⟨(Nat.le_of_ble_eq_true rfl), (Nat.le_of_ble_eq_true rfl)⟩ dX10_text_39 (fun H locs hM => ?_)
  refine lv_istore_n (pc := 42) (lv' := [(2, .int v2), (0, .ref (pB P + x0)), (1, .int x1)]) hx hb dX10_text_42 rfl hl (by decide) rfl (fun ls hl => ?_)
  refine lv_aload_n (pc := 43) hx hb dX10_text_43 rfl (lv_at hl 1 rfl) ?_
  obtain ⟨q6, e7, h⟩ := ob h
  refine bz_getQ (pc := 44) X hM fl_RX10_10 e7 dX10_text_44 ?_
  obtain ⟨q8, e9, h⟩ := ob h
  refine bz_getQ (pc := 47) X hM fl_RX10_173 e9 dX10_text_47 ?_
  obtain ⟨M11, e10, h⟩ := ob h
  obtain ⟨fs12, hb13⟩ := (rX3_clear e10)
  refine bz_callV0 (pc := 50) (As := []) (rest := []) X hM hl.1 k_RX10_189 (ctX3_clear l e10) rfl hb13 rfl rfl ⟨(Nat.le_of_ble_eq_true rfl), (Nat.le_of_ble_eq_true rfl)⟩ (Nat.le_of_ble_eq_true rfl) ⟨(Nat.le_of_ble_eq_true rfl), (Nat.le_of_ble_eq_true rfl)⟩ dX10_text_50 (fun H locs hM => ?_)
  refine lv_iload_n (pc := 53) hx hb dX10_text_53 rfl (lv_at hl 0 rfl) ?_
  refine lv_iconst (pc := 54) (v := (-1 : Int32)) hx hb dX10_text_54 (by decide) ?_
  refine lv_icmp_eq (pc := 55) (tgt := 63) hx hb dX10_text_55 (by decide) (fun hc => ?_) (fun hc => ?_)
  · have h := if_t hc h
    refine lv_aload_n (pc := 63) hx hb dX10_text_63 rfl (lv_at hl 1 rfl) ?_
    obtain ⟨q14, e15, h⟩ := ob h
    refine bz_getQ (pc := 64) X hM fl_RX10_10 e15 dX10_text_64 ?_
    refine lv_iload_n (pc := 67) hx hb dX10_text_67 rfl (lv_at hl 2 rfl) ?_
    obtain ⟨M16, e17, h⟩ := ob h
    cases e17
    refine bz_new (pc := 68) X hM cfX8 g_710 g_534 g_92 [.null, .null] (fun j hj => by rcases (show j = 0 ∨ j = 1 by omega) with rfl | rfl <;> rfl) rfl (Nat.le_of_ble_eq_true rfl) (Nat.le_of_ble_eq_true rfl) dX10_text_68 (fun H hM => ?_)
    refine lv_dup (pc := 71) hx hb dX10_text_71 rfl ?_
    refine lv_aload_n (pc := 72) hx hb dX10_text_72 rfl (lv_at hl 1 rfl) ?_
    obtain ⟨q18, e19, h⟩ := ob h
    refine bz_getQ (pc := 73) X hM fl_RX10_70 e19 dX10_text_73 ?_
    obtain ⟨q20, e21, h⟩ := ob h
    refine bz_getQ (pc := 76) X hM fl_RX10_194 e21 dX10_text_76 ?_
    obtain ⟨M23, e22, h⟩ := ob h
    refine bz_callI (pc := 79) (As := [.ref (pB P + q20)]) (rest := [.ref (pB P + M11.length), .int x1, .ref (pB P + q14)]) X hM hl.1 k_RX10_197 (ctX8_init l e22) rfl rfl ⟨(Nat.le_of_ble_eq_true rfl), (Nat.le_of_ble_eq_true rfl)⟩ (Nat.le_of_ble_eq_true rfl) ⟨(Nat.le_of_ble_eq_true rfl), (Nat.le_of_ble_eq_true rfl)⟩ dX10_text_79 (fun H locs hM => ?_)
    obtain ⟨M25, e24, h⟩ := ob h
    obtain ⟨fs26, hb27⟩ := (rX6_setText e24)
    refine bz_callV0 (pc := 82) (As := [.int x1, .ref (pB P + M11.length)]) (rest := []) X hM hl.1 k_RX10_200 (ctX6_setText l e24) rfl hb27 rfl rfl ⟨(Nat.le_of_ble_eq_true rfl), (Nat.le_of_ble_eq_true rfl)⟩ (Nat.le_of_ble_eq_true rfl) ⟨(Nat.le_of_ble_eq_true rfl), (Nat.le_of_ble_eq_true rfl)⟩ dX10_text_82 (fun H locs hM => ?_)
    refine lv_iconst (pc := 85) (v := (1 : Int32)) hx hb dX10_text_85 (by decide) ?_
    obtain ⟨rfl, rfl⟩ := so2 h
    exact bz_iret (pc := 86) X hM hr hlk dX10_text_86 (Nat.le_of_ble_eq_true rfl) (Nat.le_of_ble_eq_true rfl)
  · have h := if_f hc h
    refine lv_bipush (pc := 58) (v := (-10 : Int32)) hx hb dX10_text_58 (by decide) ?_
    refine lv_iload_n (pc := 60) hx hb dX10_text_60 rfl (lv_at hl 0 rfl) ?_
    refine lv_isub (pc := 61) hx hb dX10_text_61 ?_
    obtain ⟨rfl, rfl⟩ := so2 h
    exact bz_iret (pc := 62) X hM hr hlk dX10_text_62 (Nat.le_of_ble_eq_true rfl) (Nat.le_of_ble_eq_true rfl)
set_option maxHeartbeats 4000000 in
set_option maxRecDepth 100000 in
theorem wX10_text {p : Program} {l : Launch} {e : Env} {s : State} {m : MethodId} {args : Array Value} {below : List Frame} {meth : Method} {c : Code} {P : PT} {N : Nat}  {r9 : Int32} {M9 : Mm} (hX : Cy p s m args c meth cX10_text 3 RX10 "text" (some .int) P)  (M : Mm) (a0 : Nat) (a1 : Int32) (h : fX10_text N M a0 a1 = some (r9, M9)) : Wq p l e s m args below meth c 108 5 (some (.int r9)) M9 3 P 0 0 [(0, .ref (pB P + a0)), (1, .int a1)] [] M := by
  unfold fX10_text at h
  obtain ⟨_, _, h⟩ := ob h
  have hX0 := hX
  obtain ⟨X, hr, hlk, hnm⟩ := hX0
  have hx := X.1.1
  have hb := X.1.2.1
  intro H locs ls hM hl
  refine lv_iload_n (pc := 0) hx hb dX10_text_0 rfl (lv_at hl 1 rfl) ?_
  refine lv_iconst (pc := 1) (v := (0 : Int32)) hx hb dX10_text_1 (by decide) ?_
  refine lv_bipush (pc := 2) (v := (8 : Int32)) hx hb dX10_text_2 (by decide) ?_
  obtain ⟨v2, e1, h⟩ := ob h
  refine bz_callS1 (pc := 4) (As := [.int a1, .int (0 : Int32), .int (8 : Int32)]) (rest := []) X hM hl.1 k_RX10_74 (ctX10_within l e1) rfl rfl ⟨(Nat.le_of_ble_eq_true rfl), (Nat.le_of_ble_eq_true rfl)⟩ (Nat.le_of_ble_eq_true rfl) ⟨(Nat.le_of_ble_eq_true rfl), (Nat.le_of_ble_eq_true rfl)⟩ dX10_text_4 (fun H locs hM => ?_)
  refine lv_if_ne (pc := 7) (tgt := 16) hx hb dX10_text_7 (by decide) (fun hc => ?_) (fun hc => ?_)
  · have h := if_f hc h
    refine lv_aload_n (pc := 16) hx hb dX10_text_16 rfl (lv_at hl 0 rfl) ?_
    obtain ⟨q3, e4, h⟩ := ob h
    refine bz_getQ (pc := 17) X hM fl_RX10_70 e4 dX10_text_17 ?_
    refine lv_aload_n (pc := 20) hx hb dX10_text_20 rfl (lv_at hl 0 rfl) ?_
    obtain ⟨q5, e6, h⟩ := ob h
    refine bz_getQ (pc := 21) X hM fl_RX10_10 e6 dX10_text_21 ?_
    obtain ⟨q7, e8, h⟩ := ob h
    refine bz_getQ (pc := 24) X hM fl_RX10_173 e8 dX10_text_24 ?_
    refine lv_iload_n (pc := 27) hx hb dX10_text_27 rfl (lv_at hl 1 rfl) ?_
    refine lv_iconst (pc := 28) (v := (3 : Int32)) hx hb dX10_text_28 (by decide) ?_
    refine lv_icmp_ge (pc := 29) (tgt := 37) hx hb dX10_text_29 (by decide) (fun hc => ?_) (fun hc => ?_)
    · have h := if_t hc h
      refine bz_ldcS (pc := 37) X 2 (by decide) rfl rfl dX10_text_37 ?_
      exact wjX10_text_39 hX _ _ _ _ _ _ h H locs ls hM (lv_sub hl [0, 1] rfl)
    · have h := if_f hc h
      refine bz_ldcS (pc := 32) X 1 (by decide) rfl rfl dX10_text_32 ?_
      refine lv_goto (pc := 34) (tgt := 39) hx hb dX10_text_34 (by decide) ?_
      exact wjX10_text_39 hX _ _ _ _ _ _ h H locs ls hM (lv_sub hl [0, 1] rfl)
  · have h := if_t hc h
    refine lv_aload_n (pc := 10) hx hb dX10_text_10 rfl (lv_at hl 0 rfl) ?_
    refine lv_iconst (pc := 11) (v := (1 : Int32)) hx hb dX10_text_11 (by decide) ?_
    obtain ⟨v10, M11, e9, h⟩ := ob2 h
    obtain ⟨fs12, hb13⟩ := (rX10_error e9)
    refine bz_callV1 (pc := 12) (As := [.int (1 : Int32)]) (rest := []) X hM hl.1 k_RX10_78 (ctX10_error l e9) rfl hb13 rfl rfl ⟨(Nat.le_of_ble_eq_true rfl), (Nat.le_of_ble_eq_true rfl)⟩ (Nat.le_of_ble_eq_true rfl) ⟨(Nat.le_of_ble_eq_true rfl), (Nat.le_of_ble_eq_true rfl)⟩ dX10_text_12 (fun H locs hM => ?_)
    obtain ⟨rfl, rfl⟩ := so2 h
    exact bz_iret (pc := 15) X hM hr hlk dX10_text_15 (Nat.le_of_ble_eq_true rfl) (Nat.le_of_ble_eq_true rfl)
theorem rX10_text {N : Nat} {M : Mm} {a0 : Nat} {a1 : Int32} {r9 : Int32 × Mm} (h : fX10_text N M a0 a1 = some r9) : ∃ fs, M[a0]? = some (.inr (10, fs)) := by
  unfold fX10_text at h
  obtain ⟨_, e1, _⟩ := ob h
  exact gC_spec e1
theorem ctX10_text (l : Launch) {P : PT} {N : Nat} {M : Mm} {a0 : Nat} {a1 : Int32} {r9 : Int32} {M9 : Mm} (h : fX10_text N M a0 a1 = some (r9, M9)) : Ct l yX10_text cX10_text 3 (some .int) 108 5 P [.ref (pB P + a0), .int a1] M (some (.int r9)) M9 :=
  Ct.mk (by decide +kernel) (Nat.le_of_ble_eq_true rfl) (fun p e s m args below meth c hX => wX10_text hX M a0 a1 h)
set_option maxHeartbeats 4000000 in
set_option maxRecDepth 100000 in
theorem wX11_here {p : Program} {l : Launch} {e : Env} {s : State} {m : MethodId} {args : Array Value} {below : List Frame} {meth : Method} {c : Code} {P : PT}  {r9 : Int32} (hX : Cy p s m args c meth cX11_here 1 RX11 "here" (some .int) P)  (M : Mm) (a0 : Nat) (h : fX11_here M a0 = some r9) : Wq p l e s m args below meth c 0 0 (some (.int r9)) M 1 P 0 0 [(0, .ref (pB P + a0))] [] M := by
  unfold fX11_here at h
  obtain ⟨_, _, h⟩ := ob h
  have hX0 := hX
  obtain ⟨X, hr, hlk, hnm⟩ := hX0
  have hx := X.1.1
  have hb := X.1.2.1
  intro H locs ls hM hl
  refine lv_aload_n (pc := 0) hx hb dX11_here_0 rfl (lv_at hl 0 rfl) ?_
  obtain ⟨v1, e2, h⟩ := ob h
  refine bz_getI (pc := 1) X hM fl_RX11_152 e2 dX11_here_1 ?_
  refine lv_if_ne (pc := 4) (tgt := 37) hx hb dX11_here_4 (by decide) (fun hc => ?_) (fun hc => ?_)
  · have h := if_f hc h
    refine lv_iconst (pc := 37) (v := (-1 : Int32)) hx hb dX11_here_37 (by decide) ?_
    obtain rfl := so1 h
    exact bz_iret (pc := 38) X hM hr hlk dX11_here_38 (Nat.le_of_ble_eq_true rfl) (Nat.le_of_ble_eq_true rfl)
  · have h := if_t hc h
    refine lv_aload_n (pc := 7) hx hb dX11_here_7 rfl (lv_at hl 0 rfl) ?_
    obtain ⟨v3, e4, h⟩ := ob h
    refine bz_getI (pc := 8) X hM fl_RX11_156 e4 dX11_here_8 ?_
    refine lv_aload_n (pc := 11) hx hb dX11_here_11 rfl (lv_at hl 0 rfl) ?_
    obtain ⟨q5, e6, h⟩ := ob h
    refine bz_getQ (pc := 12) X hM fl_RX11_9 e6 dX11_here_12 ?_
    refine lv_bipush (pc := 15) (v := (6 : Int32)) hx hb dX11_here_15 (by decide) ?_
    obtain ⟨v7, e8, h⟩ := ob h
    refine bz_iald (pc := 17) X hM e8 dX11_here_17 ?_
    refine lv_icmp_ge (pc := 18) (tgt := 37) hx hb dX11_here_18 (by decide) (fun hc => ?_) (fun hc => ?_)
    · have h := if_t hc h
      refine lv_iconst (pc := 37) (v := (-1 : Int32)) hx hb dX11_here_37 (by decide) ?_
      obtain rfl := so1 h
      exact bz_iret (pc := 38) X hM hr hlk dX11_here_38 (Nat.le_of_ble_eq_true rfl) (Nat.le_of_ble_eq_true rfl)
    · have h := if_f hc h
      refine lv_aload_n (pc := 21) hx hb dX11_here_21 rfl (lv_at hl 0 rfl) ?_
      obtain ⟨q9, e10, h⟩ := ob h
      refine bz_getQ (pc := 22) X hM fl_RX11_9 e10 dX11_here_22 ?_
      refine lv_sipush (pc := 25) (v := (412 : Int32)) hx hb dX11_here_25 (by decide) ?_
      refine lv_aload_n (pc := 28) hx hb dX11_here_28 rfl (lv_at hl 0 rfl) ?_
      obtain ⟨v11, e12, h⟩ := ob h
      refine bz_getI (pc := 29) X hM fl_RX11_156 e12 dX11_here_29 ?_
      refine lv_iadd (pc := 32) hx hb dX11_here_32 ?_
      obtain ⟨v13, e14, h⟩ := ob h
      refine bz_iald (pc := 33) X hM e14 dX11_here_33 ?_
      refine lv_goto (pc := 34) (tgt := 38) hx hb dX11_here_34 (by decide) ?_
      obtain rfl := so1 h
      exact bz_iret (pc := 38) X hM hr hlk dX11_here_38 (Nat.le_of_ble_eq_true rfl) (Nat.le_of_ble_eq_true rfl)
theorem rX11_here {M : Mm} {a0 : Nat} {r9 : Int32} (h : fX11_here M a0 = some r9) : ∃ fs, M[a0]? = some (.inr (11, fs)) := by
  unfold fX11_here at h
  obtain ⟨_, e1, _⟩ := ob h
  exact gC_spec e1
theorem ctX11_here (l : Launch) {P : PT} {M : Mm} {a0 : Nat} {r9 : Int32} (h : fX11_here M a0 = some r9) : Ct l yX11_here cX11_here 1 (some .int) 0 0 P [.ref (pB P + a0)] M (some (.int r9)) M :=
  Ct.mk (by decide +kernel) (Nat.le_of_ble_eq_true rfl) (fun p e s m args below meth c hX => wX11_here hX M a0 h)
set_option maxHeartbeats 4000000 in
set_option maxRecDepth 100000 in
theorem wX11_isHere {p : Program} {l : Launch} {e : Env} {s : State} {m : MethodId} {args : Array Value} {below : List Frame} {meth : Method} {c : Code} {P : PT}  {r9 : Int32} {M9 : Mm} (hX : Cy p s m args c meth cX11_isHere 2 RX11 "isHere" (some .boolean) P)  (M : Mm) (a0 : Nat) (a1 : Int32) (h : fX11_isHere M a0 a1 = some (r9, M9)) : Wq p l e s m args below meth c 1 0 (some (.int r9)) M9 2 P 0 0 [(0, .ref (pB P + a0)), (1, .int a1)] [] M := by
  unfold fX11_isHere at h
  obtain ⟨_, _, h⟩ := ob h
  have hX0 := hX
  obtain ⟨X, hr, hlk, hnm⟩ := hX0
  have hx := X.1.1
  have hb := X.1.2.1
  intro H locs ls hM hl
  refine lv_aload_n (pc := 0) hx hb dX11_isHere_0 rfl (lv_at hl 0 rfl) ?_
  obtain ⟨v2, e1, h⟩ := ob h
  obtain ⟨fs3, hb4⟩ := (rX11_here e1)
  refine bz_callV1 (pc := 1) (As := []) (rest := []) X hM hl.1 k_RX11_160 (ctX11_here l e1) rfl hb4 rfl rfl ⟨(Nat.le_of_ble_eq_true rfl), (Nat.le_of_ble_eq_true rfl)⟩ (Nat.le_of_ble_eq_true rfl) ⟨(Nat.le_of_ble_eq_true rfl), (Nat.le_of_ble_eq_true rfl)⟩ dX11_isHere_1 (fun H locs hM => ?_)
  refine lv_iload_n (pc := 4) hx hb dX11_isHere_4 rfl (lv_at hl 1 rfl) ?_
  refine lv_icmp_eq (pc := 5) (tgt := 10) hx hb dX11_isHere_5 (by decide) (fun hc => ?_) (fun hc => ?_)
  · have h := if_t hc h
    refine lv_aload_n (pc := 10) hx hb dX11_isHere_10 rfl (lv_at hl 0 rfl) ?_
    refine lv_dup (pc := 11) hx hb dX11_isHere_11 rfl ?_
    obtain ⟨v5, e6, h⟩ := ob h
    refine bz_getI (pc := 12) X hM fl_RX11_156 e6 dX11_isHere_12 ?_
    refine lv_iconst (pc := 15) (v := (1 : Int32)) hx hb dX11_isHere_15 (by decide) ?_
    refine lv_iadd (pc := 16) hx hb dX11_isHere_16 ?_
    obtain ⟨M7, e8, h⟩ := ob h
    refine bz_putI (pc := 17) X hM fp_RX11_156 (Or.inl rfl) e8 dX11_isHere_17 (fun H locs hM => ?_)
    refine lv_iconst (pc := 20) (v := (1 : Int32)) hx hb dX11_isHere_20 (by decide) ?_
    obtain ⟨rfl, rfl⟩ := so2 h
    exact bz_zret (pc := 21) X hM hr hlk (by decide) dX11_isHere_21 (Nat.le_of_ble_eq_true rfl) (Nat.le_of_ble_eq_true rfl)
  · have h := if_f hc h
    refine lv_iconst (pc := 8) (v := (0 : Int32)) hx hb dX11_isHere_8 (by decide) ?_
    obtain ⟨rfl, rfl⟩ := so2 h
    exact bz_zret (pc := 9) X hM hr hlk (by decide) dX11_isHere_9 (Nat.le_of_ble_eq_true rfl) (Nat.le_of_ble_eq_true rfl)
theorem rX11_isHere {M : Mm} {a0 : Nat} {a1 : Int32} {r9 : Int32 × Mm} (h : fX11_isHere M a0 a1 = some r9) : ∃ fs, M[a0]? = some (.inr (11, fs)) := by
  unfold fX11_isHere at h
  obtain ⟨_, e1, _⟩ := ob h
  exact gC_spec e1
theorem ctX11_isHere (l : Launch) {P : PT} {M : Mm} {a0 : Nat} {a1 : Int32} {r9 : Int32} {M9 : Mm} (h : fX11_isHere M a0 a1 = some (r9, M9)) : Ct l yX11_isHere cX11_isHere 2 (some .boolean) 1 0 P [.ref (pB P + a0), .int a1] M (some (.int r9)) M9 :=
  Ct.mk (by decide +kernel) (Nat.le_of_ble_eq_true rfl) (fun p e s m args below meth c hX => wX11_isHere hX M a0 a1 h)
set_option maxHeartbeats 4000000 in
set_option maxRecDepth 100000 in
theorem wX11_puts {p : Program} {l : Launch} {e : Env} {s : State} {m : MethodId} {args : Array Value} {below : List Frame} {meth : Method} {c : Code} {P : PT}  {M9 : Mm} (hX : Cy p s m args c meth cX11_puts 2 RX11 "puts" none P)  (M : Mm) (a0 : Nat) (a1 : Int32) (h : fX11_puts M a0 a1 = some M9) : Wq p l e s m args below meth c 0 0 none M9 2 P 0 0 [(0, .ref (pB P + a0)), (1, .int a1)] [] M := by
  unfold fX11_puts at h
  obtain ⟨_, _, h⟩ := ob h
  have hX0 := hX
  obtain ⟨X, hr, hlk, hnm⟩ := hX0
  have hx := X.1.1
  have hb := X.1.2.1
  intro H locs ls hM hl
  refine lv_aload_n (pc := 0) hx hb dX11_puts_0 rfl (lv_at hl 0 rfl) ?_
  obtain ⟨v1, e2, h⟩ := ob h
  refine bz_getI (pc := 1) X hM fl_RX11_152 e2 dX11_puts_1 ?_
  refine lv_if_eq (pc := 4) (tgt := 8) hx hb dX11_puts_4 (by decide) (fun hc => ?_) (fun hc => ?_)
  · have h := if_t hc h
    refine lv_aload_n (pc := 8) hx hb dX11_puts_8 rfl (lv_at hl 0 rfl) ?_
    obtain ⟨q3, e4, h⟩ := ob h
    refine bz_getQ (pc := 9) X hM fl_RX11_35 e4 dX11_puts_9 ?_
    refine lv_aload_n (pc := 12) hx hb dX11_puts_12 rfl (lv_at hl 0 rfl) ?_
    obtain ⟨v5, e6, h⟩ := ob h
    refine bz_getI (pc := 13) X hM fl_RX11_164 e6 dX11_puts_13 ?_
    refine lv_iload_n (pc := 16) hx hb dX11_puts_16 rfl (lv_at hl 1 rfl) ?_
    obtain ⟨M7, e8, h⟩ := ob h
    refine bz_iast (pc := 17) X hM e8 dX11_puts_17 (fun H locs hM => ?_)
    refine lv_aload_n (pc := 18) hx hb dX11_puts_18 rfl (lv_at hl 0 rfl) ?_
    refine lv_dup (pc := 19) hx hb dX11_puts_19 rfl ?_
    obtain ⟨v9, e10, h⟩ := ob h
    refine bz_getI (pc := 20) X hM fl_RX11_164 e10 dX11_puts_20 ?_
    refine lv_iconst (pc := 23) (v := (1 : Int32)) hx hb dX11_puts_23 (by decide) ?_
    refine lv_iadd (pc := 24) hx hb dX11_puts_24 ?_
    obtain ⟨M11, e12, h⟩ := ob h
    refine bz_putI (pc := 25) X hM fp_RX11_164 (Or.inl rfl) e12 dX11_puts_25 (fun H locs hM => ?_)
    obtain rfl := so1 h
    exact bz_vret (pc := 28) X hM hr hlk dX11_puts_28 (Nat.le_of_ble_eq_true rfl) (Nat.le_of_ble_eq_true rfl)
  · have h := if_f hc h
    obtain rfl := so1 h
    exact bz_vret (pc := 7) X hM hr hlk dX11_puts_7 (Nat.le_of_ble_eq_true rfl) (Nat.le_of_ble_eq_true rfl)
theorem rX11_puts {M : Mm} {a0 : Nat} {a1 : Int32} {r9 : Mm} (h : fX11_puts M a0 a1 = some r9) : ∃ fs, M[a0]? = some (.inr (11, fs)) := by
  unfold fX11_puts at h
  obtain ⟨_, e1, _⟩ := ob h
  exact gC_spec e1
theorem ctX11_puts (l : Launch) {P : PT} {M : Mm} {a0 : Nat} {a1 : Int32} {M9 : Mm} (h : fX11_puts M a0 a1 = some M9) : Ct l yX11_puts cX11_puts 2 none 0 0 P [.ref (pB P + a0), .int a1] M none M9 :=
  Ct.mk (by decide +kernel) (Nat.le_of_ble_eq_true rfl) (fun p e s m args below meth c hX => wX11_puts hX M a0 a1 h)
