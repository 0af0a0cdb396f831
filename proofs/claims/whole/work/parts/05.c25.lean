set_option maxHeartbeats 4000000 in
set_option maxRecDepth 100000 in
theorem wBX3_firstUnlike_14 {p : Program} {l : Launch} {e : Env} {s : State} {m : MethodId} {args : Array Value} {below : List Frame} {meth : Method} {c : Code} {P : PT} {N : Nat} {K14 : Mm → Nat → Nat → Int32 → Int32 → Option (Int32)}  {r9 : Int32} (hX : Cy p s m args c meth cX3_firstUnlike 4 RX3 "firstUnlike" (some .int) P)  (hK14 : ∀ (M : Mm) (x0 : Nat) (x1 : Nat) (x2 : Int32) (x3 : Int32), K14 M x0 x1 x2 x3 = some r9 → Wq p l e s m args below meth c 1 0 (some (.int r9)) M 4 P 0 14 [(0, .ref (pB P + x0)), (1, .ref (pB P + x1)), (2, .int x2), (3, .int x3)] [] M) (M : Mm) (x0 : Nat) (x1 : Nat) (x2 : Int32) (x3 : Int32)  (h : BX3_firstUnlike_14 N K14 M x0 x1 x2 x3 = some r9) : Wq p l e s m args below meth c 1 0 (some (.int r9)) M 4 P 0 14 [(0, .ref (pB P + x0)), (1, .ref (pB P + x1)), (2, .int x2), (3, .int x3)] [] M := by
  unfold BX3_firstUnlike_14 at h
  have hX0 := hX
  obtain ⟨X, hr, hlk, hnm⟩ := hX0
  have hx := X.1.1
  have hb := X.1.2.1
  intro H locs ls hM hl
  refine lv_iload_n (pc := 14) hx hb dX3_firstUnlike_14 rfl (lv_at hl 3 rfl) ?_
  refine lv_iload_n (pc := 15) hx hb dX3_firstUnlike_15 rfl (lv_at hl 2 rfl) ?_
  refine lv_icmp_ge (pc := 16) (tgt := 56) hx hb dX3_firstUnlike_16 (by decide) (fun hc => ?_) (fun hc => ?_)
  · have h := if_t hc h
    refine lv_iconst (pc := 56) (v := (-1 : Int32)) hx hb dX3_firstUnlike_56 (by decide) ?_
    obtain rfl := so1 h
    exact bz_iret (pc := 57) X hM hr hlk dX3_firstUnlike_57 (Nat.le_of_ble_eq_true rfl) (Nat.le_of_ble_eq_true rfl)
  · have h := if_f hc h
    refine lv_aload_n (pc := 19) hx hb dX3_firstUnlike_19 rfl (lv_at hl 0 rfl) ?_
    refine lv_iload_n (pc := 20) hx hb dX3_firstUnlike_20 rfl (lv_at hl 3 rfl) ?_
    obtain ⟨v2, e1, h⟩ := ob h
    obtain ⟨fs3, hb4⟩ := (rX3_has e1)
    refine bz_callV1 (pc := 21) (As := [.int x3]) (rest := []) X hM hl.1 k_RX3_30 (ctX3_has l e1) rfl hb4 rfl rfl ⟨(Nat.le_of_ble_eq_true rfl), (Nat.le_of_ble_eq_true rfl)⟩ (Nat.le_of_ble_eq_true rfl) ⟨(Nat.le_of_ble_eq_true rfl), (Nat.le_of_ble_eq_true rfl)⟩ dX3_firstUnlike_21 (fun H locs hM => ?_)
    refine lv_if_eq (pc := 24) (tgt := 48) hx hb dX3_firstUnlike_24 (by decide) (fun hc => ?_) (fun hc => ?_)
    · have h := if_t hc h
      refine lv_iload_n (pc := 48) hx hb dX3_firstUnlike_48 rfl (lv_at hl 3 rfl) ?_
      obtain rfl := so1 h
      exact bz_iret (pc := 49) X hM hr hlk dX3_firstUnlike_49 (Nat.le_of_ble_eq_true rfl) (Nat.le_of_ble_eq_true rfl)
    · have h := if_f hc h
      refine lv_aload_n (pc := 27) hx hb dX3_firstUnlike_27 rfl (lv_at hl 1 rfl) ?_
      refine lv_iload_n (pc := 28) hx hb dX3_firstUnlike_28 rfl (lv_at hl 3 rfl) ?_
      obtain ⟨v6, e5, h⟩ := ob h
      obtain ⟨fs7, hb8⟩ := (rX3_has e5)
      refine bz_callV1 (pc := 29) (As := [.int x3]) (rest := []) X hM hl.1 k_RX3_30 (ctX3_has l e5) rfl hb8 rfl rfl ⟨(Nat.le_of_ble_eq_true rfl), (Nat.le_of_ble_eq_true rfl)⟩ (Nat.le_of_ble_eq_true rfl) ⟨(Nat.le_of_ble_eq_true rfl), (Nat.le_of_ble_eq_true rfl)⟩ dX3_firstUnlike_29 (fun H locs hM => ?_)
      refine lv_if_eq (pc := 32) (tgt := 48) hx hb dX3_firstUnlike_32 (by decide) (fun hc => ?_) (fun hc => ?_)
      · have h := if_t hc h
        refine lv_iload_n (pc := 48) hx hb dX3_firstUnlike_48 rfl (lv_at hl 3 rfl) ?_
        obtain rfl := so1 h
        exact bz_iret (pc := 49) X hM hr hlk dX3_firstUnlike_49 (Nat.le_of_ble_eq_true rfl) (Nat.le_of_ble_eq_true rfl)
      · have h := if_f hc h
        refine lv_aload_n (pc := 35) hx hb dX3_firstUnlike_35 rfl (lv_at hl 0 rfl) ?_
        refine lv_iload_n (pc := 36) hx hb dX3_firstUnlike_36 rfl (lv_at hl 3 rfl) ?_
        obtain ⟨v10, e9, h⟩ := ob h
        obtain ⟨fs11, hb12⟩ := (rX3_at e9)
        refine bz_callV1 (pc := 37) (As := [.int x3]) (rest := []) X hM hl.1 k_RX3_42 (ctX3_at l e9) rfl hb12 rfl rfl ⟨(Nat.le_of_ble_eq_true rfl), (Nat.le_of_ble_eq_true rfl)⟩ (Nat.le_of_ble_eq_true rfl) ⟨(Nat.le_of_ble_eq_true rfl), (Nat.le_of_ble_eq_true rfl)⟩ dX3_firstUnlike_37 (fun H locs hM => ?_)
        refine lv_aload_n (pc := 40) hx hb dX3_firstUnlike_40 rfl (lv_at hl 1 rfl) ?_
        refine lv_iload_n (pc := 41) hx hb dX3_firstUnlike_41 rfl (lv_at hl 3 rfl) ?_
        obtain ⟨v14, e13, h⟩ := ob h
        obtain ⟨fs15, hb16⟩ := (rX3_at e13)
        refine bz_callV1 (pc := 42) (As := [.int x3]) (rest := [.int v10]) X hM hl.1 k_RX3_42 (ctX3_at l e13) rfl hb16 rfl rfl ⟨(Nat.le_of_ble_eq_true rfl), (Nat.le_of_ble_eq_true rfl)⟩ (Nat.le_of_ble_eq_true rfl) ⟨(Nat.le_of_ble_eq_true rfl), (Nat.le_of_ble_eq_true rfl)⟩ dX3_firstUnlike_42 (fun H locs hM => ?_)
        refine lv_icmp_eq (pc := 45) (tgt := 50) hx hb dX3_firstUnlike_45 (by decide) (fun hc => ?_) (fun hc => ?_)
        · have h := if_t hc h
          refine lv_iinc (pc := 50) (v := (x3 + (1 : Int32))) (lv' := [(3, .int (x3 + (1 : Int32))), (0, .ref (pB P + x0)), (1, .ref (pB P + x1)), (2, .int x2)]) hx hb dX3_firstUnlike_50 hl (k := 3) rfl rfl (by decide) rfl (fun ls hl => ?_)
          refine lv_goto (pc := 53) (tgt := 14) hx hb dX3_firstUnlike_53 (by decide) ?_
          exact hK14 _ _ _ _ _ h H locs ls hM (lv_sub hl [1, 2, 3, 0] rfl)
        · have h := if_f hc h
          refine lv_iload_n (pc := 48) hx hb dX3_firstUnlike_48 rfl (lv_at hl 3 rfl) ?_
          obtain rfl := so1 h
          exact bz_iret (pc := 49) X hM hr hlk dX3_firstUnlike_49 (Nat.le_of_ble_eq_true rfl) (Nat.le_of_ble_eq_true rfl)
set_option maxHeartbeats 4000000 in
set_option maxRecDepth 100000 in
theorem wLX3_firstUnlike_14 {p : Program} {l : Launch} {e : Env} {s : State} {m : MethodId} {args : Array Value} {below : List Frame} {meth : Method} {c : Code} {P : PT} {N : Nat}  {r9 : Int32} (hX : Cy p s m args c meth cX3_firstUnlike 4 RX3 "firstUnlike" (some .int) P)   : ∀ (n : Nat) (M : Mm) (x0 : Nat) (x1 : Nat) (x2 : Int32) (x3 : Int32) , LX3_firstUnlike_14 N n M x0 x1 x2 x3 = some r9 → Wq p l e s m args below meth c 1 0 (some (.int r9)) M 4 P 0 14 [(0, .ref (pB P + x0)), (1, .ref (pB P + x1)), (2, .int x2), (3, .int x3)] [] M := by
  intro n
  induction n with
  | zero => intro M x0 x1 x2 x3 h; cases h
  | succ n ih => intro M x0 x1 x2 x3 h; exact wBX3_firstUnlike_14 hX ih M x0 x1 x2 x3 h
set_option maxHeartbeats 4000000 in
set_option maxRecDepth 100000 in
theorem wX3_firstUnlike {p : Program} {l : Launch} {e : Env} {s : State} {m : MethodId} {args : Array Value} {below : List Frame} {meth : Method} {c : Code} {P : PT} {N : Nat}  {r9 : Int32} (hX : Cy p s m args c meth cX3_firstUnlike 4 RX3 "firstUnlike" (some .int) P)  (M : Mm) (a0 : Nat) (a1 : Nat) (h : fX3_firstUnlike N M a0 a1 = some r9) : Wq p l e s m args below meth c 1 0 (some (.int r9)) M 4 P 0 0 [(0, .ref (pB P + a0)), (1, .ref (pB P + a1))] [] M := by
  unfold fX3_firstUnlike at h
  obtain ⟨_, _, h⟩ := ob h
  have hX0 := hX
  obtain ⟨X, hr, hlk, hnm⟩ := hX0
  have hx := X.1.1
  have hb := X.1.2.1
  intro H locs ls hM hl
  refine lv_aload_n (pc := 0) hx hb dX3_firstUnlike_0 rfl (lv_at hl 0 rfl) ?_
  obtain ⟨v1, e2, h⟩ := ob h
  refine bz_getI (pc := 1) X hM fl_RX3_19 e2 dX3_firstUnlike_1 ?_
  refine lv_aload_n (pc := 4) hx hb dX3_firstUnlike_4 rfl (lv_at hl 1 rfl) ?_
  obtain ⟨v3, e4, h⟩ := ob h
  refine bz_getI (pc := 5) X hM fl_RX3_19 e4 dX3_firstUnlike_5 ?_
  obtain ⟨v6, e5, h⟩ := ob h
  refine bz_callS1 (pc := 8) (As := [.int v1, .int v3]) (rest := []) X hM hl.1 k_RX3_7 (ctJ9_max_7cf53 l e5) rfl rfl ⟨(Nat.le_of_ble_eq_true rfl), (Nat.le_of_ble_eq_true rfl)⟩ (Nat.le_of_ble_eq_true rfl) ⟨(Nat.le_of_ble_eq_true rfl), (Nat.le_of_ble_eq_true rfl)⟩ dX3_firstUnlike_8 (fun H locs hM => ?_)
  refine lv_istore_n (pc := 11) (lv' := [(2, .int v6), (0, .ref (pB P + a0)), (1, .ref (pB P + a1))]) hx hb dX3_firstUnlike_11 rfl hl (by decide) rfl (fun ls hl => ?_)
  refine lv_iconst (pc := 12) (v := (0 : Int32)) hx hb dX3_firstUnlike_12 (by decide) ?_
  refine lv_istore_n (pc := 13) (lv' := [(3, .int (0 : Int32)), (2, .int v6), (0, .ref (pB P + a0)), (1, .ref (pB P + a1))]) hx hb dX3_firstUnlike_13 rfl hl (by decide) rfl (fun ls hl => ?_)
  exact wLX3_firstUnlike_14 hX _ _ _ _ _ _ h H locs ls hM (lv_sub hl [2, 3, 1, 0] rfl)
theorem rX3_firstUnlike {N : Nat} {M : Mm} {a0 : Nat} {a1 : Nat} {r9 : Int32} (h : fX3_firstUnlike N M a0 a1 = some r9) : ∃ fs, M[a0]? = some (.inr (3, fs)) := by
  unfold fX3_firstUnlike at h
  obtain ⟨_, e1, _⟩ := ob h
  exact gC_spec e1
theorem ctX3_firstUnlike (l : Launch) {P : PT} {N : Nat} {M : Mm} {a0 : Nat} {a1 : Nat} {r9 : Int32} (h : fX3_firstUnlike N M a0 a1 = some r9) : Ct l yX3_firstUnlike cX3_firstUnlike 4 (some .int) 1 0 P [.ref (pB P + a0), .ref (pB P + a1)] M (some (.int r9)) M :=
  Ct.mk (by decide +kernel) (Nat.le_of_ble_eq_true rfl) (fun p e s m args below meth c hX => wX3_firstUnlike hX M a0 a1 h)
set_option maxHeartbeats 4000000 in
set_option maxRecDepth 100000 in
theorem wX10_check {p : Program} {l : Launch} {e : Env} {s : State} {m : MethodId} {args : Array Value} {below : List Frame} {meth : Method} {c : Code} {P : PT} {N : Nat}  {r9 : Int32} {M9 : Mm} (hX : Cy p s m args c meth cX10_check 4 RX10 "check" (some .int) P)  (M : Mm) (a0 : Nat) (a1 : Int32) (h : fX10_check N M a0 a1 = some (r9, M9)) : Wq p l e s m args below meth c 6 0 (some (.int r9)) M9 4 P 0 0 [(0, .ref (pB P + a0)), (1, .int a1)] [] M := by
  unfold fX10_check at h
  obtain ⟨_, _, h⟩ := ob h
  have hX0 := hX
  obtain ⟨X, hr, hlk, hnm⟩ := hX0
  have hx := X.1.1
  have hb := X.1.2.1
  intro H locs ls hM hl
  refine lv_aload_n (pc := 0) hx hb dX10_check_0 rfl (lv_at hl 0 rfl) ?_
  obtain ⟨q1, e2, h⟩ := ob h
  refine bz_getQ (pc := 1) X hM fl_RX10_10 e2 dX10_check_1 ?_
  refine lv_iload_n (pc := 4) hx hb dX10_check_4 rfl (lv_at hl 1 rfl) ?_
  obtain ⟨r4, e3, h⟩ := ob h
  obtain ⟨fs5, hb6⟩ := (rX6_countingAt e3)
  refine bz_callV1 (pc := 5) (As := [.int a1]) (rest := []) X hM hl.1 k_RX10_239 (ctX6_countingAt l e3) rfl hb6 rfl rfl ⟨(Nat.le_of_ble_eq_true rfl), (Nat.le_of_ble_eq_true rfl)⟩ (Nat.le_of_ble_eq_true rfl) ⟨(Nat.le_of_ble_eq_true rfl), (Nat.le_of_ble_eq_true rfl)⟩ dX10_check_5 (fun H locs hM => ?_)
  refine bz_astore_nO (pc := 8) (lv' := [(2, rO P r4), (0, .ref (pB P + a0)), (1, .int a1)]) hx hb dX10_check_8 rfl hl (by decide) rfl (fun ls hl => ?_)
  refine bz_aload_nO (pc := 9) hx hb dX10_check_9 rfl (lv_at hl 0 rfl) ?_
  refine bz_ifnonnullO (pc := 10) (tgt := 29) hx hb dX10_check_10 (by decide) (fun q7 hc => ?_) (fun hc => ?_)
  · subst hc
    have h := om_s rfl h
    have hl : lv_has ls 4 [(2, .ref (pB P + q7)), (0, .ref (pB P + a0)), (1, .int a1)] := hl
    refine lv_aload_n (pc := 29) hx hb dX10_check_29 rfl (lv_at hl 1 rfl) ?_
    obtain ⟨q21, e22, h⟩ := ob h
    refine bz_getQ (pc := 30) X hM fl_RX10_42 e22 dX10_check_30 ?_
    refine lv_aload_n (pc := 33) hx hb dX10_check_33 rfl (lv_at hl 1 rfl) ?_
    obtain ⟨q23, e24, h⟩ := ob h
    refine bz_getQ (pc := 34) X hM fl_RX10_10 e24 dX10_check_34 ?_
    refine lv_aload_n (pc := 37) hx hb dX10_check_37 rfl (lv_at hl 0 rfl) ?_
    obtain ⟨v25, e26, h⟩ := ob h
    refine bz_getI (pc := 38) X hM fl_RX10_250 e26 dX10_check_38 ?_
    obtain ⟨M28, e27, h⟩ := ob h
    obtain ⟨fs29, hb30⟩ := (rX1_hear e27)
    refine bz_callV0 (pc := 41) (As := [.ref (pB P + q23), .int v25]) (rest := []) X hM hl.1 k_RX10_217 (ctX1_hear l e27) rfl hb30 rfl rfl ⟨(Nat.le_of_ble_eq_true rfl), (Nat.le_of_ble_eq_true rfl)⟩ (Nat.le_of_ble_eq_true rfl) ⟨(Nat.le_of_ble_eq_true rfl), (Nat.le_of_ble_eq_true rfl)⟩ dX10_check_41 (fun H locs hM => ?_)
    refine lv_aload_n (pc := 44) hx hb dX10_check_44 rfl (lv_at hl 1 rfl) ?_
    obtain ⟨q31, e32, h⟩ := ob h
    refine bz_getQ (pc := 45) X hM fl_RX10_42 e32 dX10_check_45 ?_
    refine lv_aload_n (pc := 48) hx hb dX10_check_48 rfl (lv_at hl 0 rfl) ?_
    obtain ⟨v33, e34, h⟩ := ob h
    refine bz_getI (pc := 49) X hM fl_RX10_246 e34 dX10_check_49 ?_
    obtain ⟨M36, e35, h⟩ := ob h
    obtain ⟨fs37, hb38⟩ := (rX1_drawLine e35)
    refine bz_callV0 (pc := 52) (As := [.int v33]) (rest := []) X hM hl.1 k_RX10_218 (ctX1_drawLine l e35) rfl hb38 rfl rfl ⟨(Nat.le_of_ble_eq_true rfl), (Nat.le_of_ble_eq_true rfl)⟩ (Nat.le_of_ble_eq_true rfl) ⟨(Nat.le_of_ble_eq_true rfl), (Nat.le_of_ble_eq_true rfl)⟩ dX10_check_52 (fun H locs hM => ?_)
    refine lv_aload_n (pc := 55) hx hb dX10_check_55 rfl (lv_at hl 1 rfl) ?_
    obtain ⟨q39, e40, h⟩ := ob h
    refine bz_getQ (pc := 56) X hM fl_RX10_42 e40 dX10_check_56 ?_
    refine lv_aload_n (pc := 59) hx hb dX10_check_59 rfl (lv_at hl 0 rfl) ?_
    obtain ⟨v41, e42, h⟩ := ob h
    refine bz_getI (pc := 60) X hM fl_RX10_400 e42 dX10_check_60 ?_
    refine lv_iconst (pc := 63) (v := (0 : Int32)) hx hb dX10_check_63 (by decide) ?_
    obtain ⟨v44, M45, e43, h⟩ := ob2 h
    obtain ⟨fs46, hb47⟩ := (rX1_meeting e43)
    refine bz_callV1 (pc := 64) (As := [.int v41, .int (0 : Int32)]) (rest := []) X hM hl.1 k_RX10_221 (ctX1_meeting l e43) rfl hb47 rfl rfl ⟨(Nat.le_of_ble_eq_true rfl), (Nat.le_of_ble_eq_true rfl)⟩ (Nat.le_of_ble_eq_true rfl) ⟨(Nat.le_of_ble_eq_true rfl), (Nat.le_of_ble_eq_true rfl)⟩ dX10_check_64 (fun H locs hM => ?_)
    refine lv_pop (pc := 67) hx hb dX10_check_67 rfl ?_
    refine lv_aload_n (pc := 68) hx hb dX10_check_68 rfl (lv_at hl 1 rfl) ?_
    obtain ⟨q48, e49, h⟩ := ob h
    refine bz_getQ (pc := 69) X hM fl_RX10_10 e49 dX10_check_69 ?_
    obtain ⟨q50, e51, h⟩ := ob h
    refine bz_getQ (pc := 72) X hM fl_RX10_397 e51 dX10_check_72 ?_
    refine lv_aload_n (pc := 75) hx hb dX10_check_75 rfl (lv_at hl 1 rfl) ?_
    obtain ⟨q52, e53, h⟩ := ob h
    refine bz_getQ (pc := 76) X hM fl_RX10_42 e53 dX10_check_76 ?_
    obtain ⟨q54, e55, h⟩ := ob h
    refine bz_getQ (pc := 79) X hM fl_RX10_403 e55 dX10_check_79 ?_
    obtain ⟨v57, e56, h⟩ := ob h
    obtain ⟨fs58, hb59⟩ := (rX3_firstUnlike e56)
    refine bz_callV1 (pc := 82) (As := [.ref (pB P + q54)]) (rest := []) X hM hl.1 k_RX10_406 (ctX3_firstUnlike l e56) rfl hb59 rfl rfl ⟨(Nat.le_of_ble_eq_true rfl), (Nat.le_of_ble_eq_true rfl)⟩ (Nat.le_of_ble_eq_true rfl) ⟨(Nat.le_of_ble_eq_true rfl), (Nat.le_of_ble_eq_true rfl)⟩ dX10_check_82 (fun H locs hM => ?_)
    refine lv_istore_n (pc := 85) (lv' := [(3, .int v57), (2, .ref (pB P + q7)), (0, .ref (pB P + a0)), (1, .int a1)]) hx hb dX10_check_85 rfl hl (by decide) rfl (fun ls hl => ?_)
    refine lv_aload_n (pc := 86) hx hb dX10_check_86 rfl (lv_at hl 2 rfl) ?_
    obtain ⟨q60, e61, h⟩ := ob h
    refine bz_getQ (pc := 87) X hM fl_RX10_10 e61 dX10_check_87 ?_
    obtain ⟨q62, e63, h⟩ := ob h
    refine bz_getQ (pc := 90) X hM fl_RX10_397 e63 dX10_check_90 ?_
    obtain ⟨M65, e64, h⟩ := ob h
    obtain ⟨fs66, hb67⟩ := (rX3_clear e64)
    refine bz_callV0 (pc := 93) (As := []) (rest := []) X hM hl.1 k_RX10_189 (ctX3_clear l e64) rfl hb67 rfl rfl ⟨(Nat.le_of_ble_eq_true rfl), (Nat.le_of_ble_eq_true rfl)⟩ (Nat.le_of_ble_eq_true rfl) ⟨(Nat.le_of_ble_eq_true rfl), (Nat.le_of_ble_eq_true rfl)⟩ dX10_check_93 (fun H locs hM => ?_)
    refine lv_iconst (pc := 96) (v := (1 : Int32)) hx hb dX10_check_96 (by decide) ?_
    refine lv_iload_n (pc := 97) hx hb dX10_check_97 rfl (lv_at hl 0 rfl) ?_
    refine lv_iadd (pc := 98) hx hb dX10_check_98 ?_
    obtain ⟨rfl, rfl⟩ := so2 h
    exact bz_iret (pc := 99) X hM hr hlk dX10_check_99 (Nat.le_of_ble_eq_true rfl) (Nat.le_of_ble_eq_true rfl)
  · subst hc
    have h := om_n rfl h
    have hl : lv_has ls 4 [(2, .null), (0, .ref (pB P + a0)), (1, .int a1)] := hl
    refine lv_aload_n (pc := 13) hx hb dX10_check_13 rfl (lv_at hl 1 rfl) ?_
    obtain ⟨q8, e9, h⟩ := ob h
    refine bz_getQ (pc := 14) X hM fl_RX10_10 e9 dX10_check_14 ?_
    obtain ⟨q10, e11, h⟩ := ob h
    refine bz_getQ (pc := 17) X hM fl_RX10_397 e11 dX10_check_17 ?_
    obtain ⟨M13, e12, h⟩ := ob h
    obtain ⟨fs14, hb15⟩ := (rX3_clear e12)
    refine bz_callV0 (pc := 20) (As := []) (rest := []) X hM hl.1 k_RX10_189 (ctX3_clear l e12) rfl hb15 rfl rfl ⟨(Nat.le_of_ble_eq_true rfl), (Nat.le_of_ble_eq_true rfl)⟩ (Nat.le_of_ble_eq_true rfl) ⟨(Nat.le_of_ble_eq_true rfl), (Nat.le_of_ble_eq_true rfl)⟩ dX10_check_20 (fun H locs hM => ?_)
    refine lv_aload_n (pc := 23) hx hb dX10_check_23 rfl (lv_at hl 1 rfl) ?_
    refine lv_iconst (pc := 24) (v := (1 : Int32)) hx hb dX10_check_24 (by decide) ?_
    obtain ⟨v17, M18, e16, h⟩ := ob2 h
    obtain ⟨fs19, hb20⟩ := (rX10_error e16)
    refine bz_callV1 (pc := 25) (As := [.int (1 : Int32)]) (rest := []) X hM hl.1 k_RX10_78 (ctX10_error l e16) rfl hb20 rfl rfl ⟨(Nat.le_of_ble_eq_true rfl), (Nat.le_of_ble_eq_true rfl)⟩ (Nat.le_of_ble_eq_true rfl) ⟨(Nat.le_of_ble_eq_true rfl), (Nat.le_of_ble_eq_true rfl)⟩ dX10_check_25 (fun H locs hM => ?_)
    obtain ⟨rfl, rfl⟩ := so2 h
    exact bz_iret (pc := 28) X hM hr hlk dX10_check_28 (Nat.le_of_ble_eq_true rfl) (Nat.le_of_ble_eq_true rfl)
theorem rX10_check {N : Nat} {M : Mm} {a0 : Nat} {a1 : Int32} {r9 : Int32 × Mm} (h : fX10_check N M a0 a1 = some r9) : ∃ fs, M[a0]? = some (.inr (10, fs)) := by
  unfold fX10_check at h
  obtain ⟨_, e1, _⟩ := ob h
  exact gC_spec e1
theorem ctX10_check (l : Launch) {P : PT} {N : Nat} {M : Mm} {a0 : Nat} {a1 : Int32} {r9 : Int32} {M9 : Mm} (h : fX10_check N M a0 a1 = some (r9, M9)) : Ct l yX10_check cX10_check 4 (some .int) 6 0 P [.ref (pB P + a0), .int a1] M (some (.int r9)) M9 :=
  Ct.mk (by decide +kernel) (Nat.le_of_ble_eq_true rfl) (fun p e s m args below meth c hX => wX10_check hX M a0 a1 h)
set_option maxHeartbeats 4000000 in
set_option maxRecDepth 100000 in
theorem wBX11_check_50 {p : Program} {l : Launch} {e : Env} {s : State} {m : MethodId} {args : Array Value} {below : List Frame} {meth : Method} {c : Code} {P : PT} {N : Nat} {K50 : Mm → Nat → Int32 → Int32 → Int32 → Int32 → Int32 → Option (Int32 × Mm)}  {r9 : Int32} {M9 : Mm} (hX : Cy p s m args c meth cX11_check 7 RX11 "check" (some .int) P)  (hK50 : ∀ (M : Mm) (x0 : Nat) (x1 : Int32) (x2 : Int32) (x3 : Int32) (x4 : Int32) (x5 : Int32), K50 M x0 x1 x2 x3 x4 x5 = some (r9, M9) → Wq p l e s m args below meth c 4 0 (some (.int r9)) M9 7 P 0 50 [(0, .ref (pB P + x0)), (1, .int x1), (2, .int x2), (3, .int x3), (4, .int x4), (5, .int x5)] [] M) (M : Mm) (x0 : Nat) (x1 : Int32) (x2 : Int32) (x3 : Int32) (x4 : Int32) (x5 : Int32)  (h : BX11_check_50 N K50 M x0 x1 x2 x3 x4 x5 = some (r9, M9)) : Wq p l e s m args below meth c 4 0 (some (.int r9)) M9 7 P 0 50 [(0, .ref (pB P + x0)), (1, .int x1), (2, .int x2), (3, .int x3), (4, .int x4), (5, .int x5)] [] M := by
  unfold BX11_check_50 at h
  have hX0 := hX
  obtain ⟨X, hr, hlk, hnm⟩ := hX0
  have hx := X.1.1
  have hb := X.1.2.1
  intro H locs ls hM hl
  refine lv_iload (pc := 50) hx hb dX11_check_50 (lv_at hl 5 rfl) ?_
  refine lv_aload_n (pc := 52) hx hb dX11_check_52 rfl (lv_at hl 0 rfl) ?_
  obtain ⟨q1, e2, h⟩ := ob h
  refine bz_getQ (pc := 53) X hM fl_RX11_9 e2 dX11_check_53 ?_
  refine lv_iconst (pc := 56) (v := (1 : Int32)) hx hb dX11_check_56 (by decide) ?_
  obtain ⟨v3, e4, h⟩ := ob h
  refine bz_iald (pc := 57) X hM e4 dX11_check_57 ?_
  refine lv_icmp_ge (pc := 58) (tgt := 161) hx hb dX11_check_58 (by decide) (fun hc => ?_) (fun hc => ?_)
  · have h := if_t hc h
    refine lv_iload (pc := 161) hx hb dX11_check_161 (lv_at hl 4 rfl) ?_
    refine lv_iload_n (pc := 163) hx hb dX11_check_163 rfl (lv_at hl 2 rfl) ?_
    refine lv_icmp_ne (pc := 164) (tgt := 171) hx hb dX11_check_164 (by decide) (fun hc => ?_) (fun hc => ?_)
    · have h := if_f hc h
      refine lv_iconst (pc := 171) (v := (1 : Int32)) hx hb dX11_check_171 (by decide) ?_
      refine lv_iload (pc := 172) hx hb dX11_check_172 (lv_at hl 4 rfl) ?_
      refine lv_iadd (pc := 174) hx hb dX11_check_174 ?_
      obtain ⟨rfl, rfl⟩ := so2 h
      exact bz_iret (pc := 175) X hM hr hlk dX11_check_175 (Nat.le_of_ble_eq_true rfl) (Nat.le_of_ble_eq_true rfl)
    · have h := if_t hc h
      refine lv_iconst (pc := 167) (v := (0 : Int32)) hx hb dX11_check_167 (by decide) ?_
      refine lv_goto (pc := 168) (tgt := 175) hx hb dX11_check_168 (by decide) ?_
      obtain ⟨rfl, rfl⟩ := so2 h
      exact bz_iret (pc := 175) X hM hr hlk dX11_check_175 (Nat.le_of_ble_eq_true rfl) (Nat.le_of_ble_eq_true rfl)
  · have h := if_f hc h
    refine lv_aload_n (pc := 61) hx hb dX11_check_61 rfl (lv_at hl 0 rfl) ?_
    refine lv_iload_n (pc := 62) hx hb dX11_check_62 rfl (lv_at hl 3 rfl) ?_
    refine lv_iload (pc := 63) hx hb dX11_check_63 (lv_at hl 5 rfl) ?_
    obtain ⟨v6, e5, h⟩ := ob h
    obtain ⟨fs7, hb8⟩ := (rX11_taped e5)
    refine bz_callV1 (pc := 65) (As := [.int x3, .int x5]) (rest := []) X hM hl.1 k_RX11_108 (ctX11_taped l e5) rfl hb8 rfl rfl ⟨(Nat.le_of_ble_eq_true rfl), (Nat.le_of_ble_eq_true rfl)⟩ (Nat.le_of_ble_eq_true rfl) ⟨(Nat.le_of_ble_eq_true rfl), (Nat.le_of_ble_eq_true rfl)⟩ dX11_check_65 (fun H locs hM => ?_)
    refine lv_istore (pc := 68) (lv' := [(6, .int v6), (0, .ref (pB P + x0)), (1, .int x1), (2, .int x2), (3, .int x3), (4, .int x4), (5, .int x5)]) hx hb dX11_check_68 hl (by decide) rfl (fun ls hl => ?_)
    refine lv_iload (pc := 70) hx hb dX11_check_70 (lv_at hl 0 rfl) ?_
    refine lv_if_lt (pc := 72) (tgt := 155) hx hb dX11_check_72 (by decide) (fun hc => ?_) (fun hc => ?_)
    · have h := if_t hc h
      refine lv_iinc (pc := 155) (v := (x5 + (1 : Int32))) (lv' := [(5, .int (x5 + (1 : Int32))), (6, .int v6), (0, .ref (pB P + x0)), (1, .int x1), (2, .int x2), (3, .int x3), (4, .int x4)]) hx hb dX11_check_155 hl (k := 6) rfl rfl (by decide) rfl (fun ls hl => ?_)
      refine lv_goto (pc := 158) (tgt := 50) hx hb dX11_check_158 (by decide) ?_
      exact hK50 _ _ _ _ _ _ _ h H locs ls hM (lv_sub hl [2, 3, 4, 5, 6, 0] rfl)
    · have h := if_f hc h
      refine lv_aload_n (pc := 75) hx hb dX11_check_75 rfl (lv_at hl 1 rfl) ?_
      refine lv_iload (pc := 76) hx hb dX11_check_76 (lv_at hl 0 rfl) ?_
      refine lv_iload_n (pc := 78) hx hb dX11_check_78 rfl (lv_at hl 4 rfl) ?_
      refine lv_aload_n (pc := 79) hx hb dX11_check_79 rfl (lv_at hl 1 rfl) ?_
      refine lv_iload_n (pc := 80) hx hb dX11_check_80 rfl (lv_at hl 2 rfl) ?_
      refine lv_iconst (pc := 81) (v := (2 : Int32)) hx hb dX11_check_81 (by decide) ?_
      obtain ⟨v10, e9, h⟩ := ob h
      obtain ⟨fs11, hb12⟩ := (rX11_of e9)
      refine bz_callV1 (pc := 82) (As := [.int x1, .int (2 : Int32)]) (rest := [.int x3, .int v6, .ref (pB P + x0)]) X hM hl.1 k_RX11_222 (ctX11_of l e9) rfl hb12 rfl rfl ⟨(Nat.le_of_ble_eq_true rfl), (Nat.le_of_ble_eq_true rfl)⟩ (Nat.le_of_ble_eq_true rfl) ⟨(Nat.le_of_ble_eq_true rfl), (Nat.le_of_ble_eq_true rfl)⟩ dX11_check_82 (fun H locs hM => ?_)
      obtain ⟨v14, e13, h⟩ := ob h
      obtain ⟨fs15, hb16⟩ := (rX11_isCounted e13)
      refine bz_callV1 (pc := 85) (As := [.int v6, .int x3, .int v10]) (rest := []) X hM hl.1 k_RX11_123 (ctX11_isCounted l e13) rfl hb16 rfl rfl ⟨(Nat.le_of_ble_eq_true rfl), (Nat.le_of_ble_eq_true rfl)⟩ (Nat.le_of_ble_eq_true rfl) ⟨(Nat.le_of_ble_eq_true rfl), (Nat.le_of_ble_eq_true rfl)⟩ dX11_check_85 (fun H locs hM => ?_)
      refine lv_if_eq (pc := 88) (tgt := 155) hx hb dX11_check_88 (by decide) (fun hc => ?_) (fun hc => ?_)
      · have h := if_t hc h
        refine lv_iinc (pc := 155) (v := (x5 + (1 : Int32))) (lv' := [(5, .int (x5 + (1 : Int32))), (6, .int v6), (0, .ref (pB P + x0)), (1, .int x1), (2, .int x2), (3, .int x3), (4, .int x4)]) hx hb dX11_check_155 hl (k := 6) rfl rfl (by decide) rfl (fun ls hl => ?_)
        refine lv_goto (pc := 158) (tgt := 50) hx hb dX11_check_158 (by decide) ?_
        exact hK50 _ _ _ _ _ _ _ h H locs ls hM (lv_sub hl [2, 3, 4, 5, 6, 0] rfl)
      · have h := if_f hc h
        refine lv_aload_n (pc := 91) hx hb dX11_check_91 rfl (lv_at hl 1 rfl) ?_
        refine lv_iload (pc := 92) hx hb dX11_check_92 (lv_at hl 0 rfl) ?_
        refine lv_aload_n (pc := 94) hx hb dX11_check_94 rfl (lv_at hl 1 rfl) ?_
        refine lv_iload_n (pc := 95) hx hb dX11_check_95 rfl (lv_at hl 2 rfl) ?_
        refine lv_iconst (pc := 96) (v := (1 : Int32)) hx hb dX11_check_96 (by decide) ?_
        obtain ⟨v18, e17, h⟩ := ob h
        obtain ⟨fs19, hb20⟩ := (rX11_of e17)
        refine bz_callV1 (pc := 97) (As := [.int x1, .int (1 : Int32)]) (rest := [.int v6, .ref (pB P + x0)]) X hM hl.1 k_RX11_222 (ctX11_of l e17) rfl hb20 rfl rfl ⟨(Nat.le_of_ble_eq_true rfl), (Nat.le_of_ble_eq_true rfl)⟩ (Nat.le_of_ble_eq_true rfl) ⟨(Nat.le_of_ble_eq_true rfl), (Nat.le_of_ble_eq_true rfl)⟩ dX11_check_97 (fun H locs hM => ?_)
        refine lv_bipush (pc := 100) (v := (10 : Int32)) hx hb dX11_check_100 (by decide) ?_
        refine bz_irem (pc := 102) hx hb dX11_check_102 (by decide) ?_
        refine lv_aload_n (pc := 103) hx hb dX11_check_103 rfl (lv_at hl 1 rfl) ?_
        refine lv_iload_n (pc := 104) hx hb dX11_check_104 rfl (lv_at hl 2 rfl) ?_
        refine lv_iconst (pc := 105) (v := (2 : Int32)) hx hb dX11_check_105 (by decide) ?_
        obtain ⟨v22, e21, h⟩ := ob h
        obtain ⟨fs23, hb24⟩ := (rX11_of e21)
        refine bz_callV1 (pc := 106) (As := [.int x1, .int (2 : Int32)]) (rest := [.int (rmI v18 ((10 : Int32))), .int v6, .ref (pB P + x0)]) X hM hl.1 k_RX11_222 (ctX11_of l e21) rfl hb24 rfl rfl ⟨(Nat.le_of_ble_eq_true rfl), (Nat.le_of_ble_eq_true rfl)⟩ (Nat.le_of_ble_eq_true rfl) ⟨(Nat.le_of_ble_eq_true rfl), (Nat.le_of_ble_eq_true rfl)⟩ dX11_check_106 (fun H locs hM => ?_)
        refine lv_aload_n (pc := 109) hx hb dX11_check_109 rfl (lv_at hl 1 rfl) ?_
        refine lv_iload_n (pc := 110) hx hb dX11_check_110 rfl (lv_at hl 2 rfl) ?_
        refine lv_iconst (pc := 111) (v := (3 : Int32)) hx hb dX11_check_111 (by decide) ?_
        obtain ⟨v26, e25, h⟩ := ob h
        obtain ⟨fs27, hb28⟩ := (rX11_of e25)
        refine bz_callV1 (pc := 112) (As := [.int x1, .int (3 : Int32)]) (rest := [.int v22, .int (rmI v18 ((10 : Int32))), .int v6, .ref (pB P + x0)]) X hM hl.1 k_RX11_222 (ctX11_of l e25) rfl hb28 rfl rfl ⟨(Nat.le_of_ble_eq_true rfl), (Nat.le_of_ble_eq_true rfl)⟩ (Nat.le_of_ble_eq_true rfl) ⟨(Nat.le_of_ble_eq_true rfl), (Nat.le_of_ble_eq_true rfl)⟩ dX11_check_112 (fun H locs hM => ?_)
        refine lv_iconst (pc := 115) (v := (0 : Int32)) hx hb dX11_check_115 (by decide) ?_
        obtain ⟨v30, e29, h⟩ := ob h
        obtain ⟨fs31, hb32⟩ := (rX11_isMet e29)
        refine bz_callV1 (pc := 116) (As := [.int v6, .int (rmI v18 ((10 : Int32))), .int v22, .int v26, .int (0 : Int32)]) (rest := []) X hM hl.1 k_RX11_127 (ctX11_isMet l e29) rfl hb32 rfl rfl ⟨(Nat.le_of_ble_eq_true rfl), (Nat.le_of_ble_eq_true rfl)⟩ (Nat.le_of_ble_eq_true rfl) ⟨(Nat.le_of_ble_eq_true rfl), (Nat.le_of_ble_eq_true rfl)⟩ dX11_check_116 (fun H locs hM => ?_)
        refine lv_if_ne (pc := 119) (tgt := 125) hx hb dX11_check_119 (by decide) (fun hc => ?_) (fun hc => ?_)
        · have h := if_f hc h
          refine lv_iload (pc := 125) hx hb dX11_check_125 (lv_at hl 5 rfl) ?_
          refine lv_iload_n (pc := 127) hx hb dX11_check_127 rfl (lv_at hl 3 rfl) ?_
          refine lv_icmp_eq (pc := 128) (tgt := 147) hx hb dX11_check_128 (by decide) (fun hc => ?_) (fun hc => ?_)
          · have h := if_t hc h
            refine lv_iconst (pc := 147) (v := (1 : Int32)) hx hb dX11_check_147 (by decide) ?_
            refine lv_iload (pc := 148) hx hb dX11_check_148 (lv_at hl 5 rfl) ?_
            refine lv_iadd (pc := 150) hx hb dX11_check_150 ?_
            obtain ⟨rfl, rfl⟩ := so2 h
            exact bz_iret (pc := 151) X hM hr hlk dX11_check_151 (Nat.le_of_ble_eq_true rfl) (Nat.le_of_ble_eq_true rfl)
          · have h := if_f hc h
            refine lv_aload_n (pc := 131) hx hb dX11_check_131 rfl (lv_at hl 1 rfl) ?_
            obtain ⟨q33, e34, h⟩ := ob h
            refine bz_getQ (pc := 132) X hM fl_RX11_9 e34 dX11_check_132 ?_
            refine lv_sipush (pc := 135) (v := (462 : Int32)) hx hb dX11_check_135 (by decide) ?_
            refine lv_iload (pc := 138) hx hb dX11_check_138 (lv_at hl 5 rfl) ?_
            refine lv_iadd (pc := 140) hx hb dX11_check_140 ?_
            obtain ⟨v35, e36, h⟩ := ob h
            refine bz_iald (pc := 141) X hM e36 dX11_check_141 ?_
            refine lv_iload (pc := 142) hx hb dX11_check_142 (lv_at hl 0 rfl) ?_
            refine lv_icmp_eq (pc := 144) (tgt := 152) hx hb dX11_check_144 (by decide) (fun hc => ?_) (fun hc => ?_)
            · have h := if_t hc h
              refine lv_iinc (pc := 152) (v := (x4 + (1 : Int32))) (lv' := [(4, .int (x4 + (1 : Int32))), (6, .int v6), (0, .ref (pB P + x0)), (1, .int x1), (2, .int x2), (3, .int x3), (5, .int x5)]) hx hb dX11_check_152 hl (k := 5) rfl rfl (by decide) rfl (fun ls hl => ?_)
              refine lv_iinc (pc := 155) (v := (x5 + (1 : Int32))) (lv' := [(5, .int (x5 + (1 : Int32))), (4, .int (x4 + (1 : Int32))), (6, .int v6), (0, .ref (pB P + x0)), (1, .int x1), (2, .int x2), (3, .int x3)]) hx hb dX11_check_155 hl (k := 6) rfl rfl (by decide) rfl (fun ls hl => ?_)
              refine lv_goto (pc := 158) (tgt := 50) hx hb dX11_check_158 (by decide) ?_
              exact hK50 _ _ _ _ _ _ _ h H locs ls hM (lv_sub hl [3, 4, 5, 6, 1, 0] rfl)
            · have h := if_f hc h
              refine lv_iconst (pc := 147) (v := (1 : Int32)) hx hb dX11_check_147 (by decide) ?_
              refine lv_iload (pc := 148) hx hb dX11_check_148 (lv_at hl 5 rfl) ?_
              refine lv_iadd (pc := 150) hx hb dX11_check_150 ?_
              obtain ⟨rfl, rfl⟩ := so2 h
              exact bz_iret (pc := 151) X hM hr hlk dX11_check_151 (Nat.le_of_ble_eq_true rfl) (Nat.le_of_ble_eq_true rfl)
        · have h := if_t hc h
          refine lv_goto (pc := 122) (tgt := 155) hx hb dX11_check_122 (by decide) ?_
          refine lv_iinc (pc := 155) (v := (x5 + (1 : Int32))) (lv' := [(5, .int (x5 + (1 : Int32))), (6, .int v6), (0, .ref (pB P + x0)), (1, .int x1), (2, .int x2), (3, .int x3), (4, .int x4)]) hx hb dX11_check_155 hl (k := 6) rfl rfl (by decide) rfl (fun ls hl => ?_)
          refine lv_goto (pc := 158) (tgt := 50) hx hb dX11_check_158 (by decide) ?_
          exact hK50 _ _ _ _ _ _ _ h H locs ls hM (lv_sub hl [2, 3, 4, 5, 6, 0] rfl)
set_option maxHeartbeats 4000000 in
set_option maxRecDepth 100000 in
theorem wLX11_check_50 {p : Program} {l : Launch} {e : Env} {s : State} {m : MethodId} {args : Array Value} {below : List Frame} {meth : Method} {c : Code} {P : PT} {N : Nat}  {r9 : Int32} {M9 : Mm} (hX : Cy p s m args c meth cX11_check 7 RX11 "check" (some .int) P)   : ∀ (n : Nat) (M : Mm) (x0 : Nat) (x1 : Int32) (x2 : Int32) (x3 : Int32) (x4 : Int32) (x5 : Int32) , LX11_check_50 N n M x0 x1 x2 x3 x4 x5 = some (r9, M9) → Wq p l e s m args below meth c 4 0 (some (.int r9)) M9 7 P 0 50 [(0, .ref (pB P + x0)), (1, .int x1), (2, .int x2), (3, .int x3), (4, .int x4), (5, .int x5)] [] M := by
  intro n
  induction n with
  | zero => intro M x0 x1 x2 x3 x4 x5 h; cases h
  | succ n ih => intro M x0 x1 x2 x3 x4 x5 h; exact wBX11_check_50 hX ih M x0 x1 x2 x3 x4 x5 h
set_option maxHeartbeats 4000000 in
set_option maxRecDepth 100000 in
theorem wX11_check {p : Program} {l : Launch} {e : Env} {s : State} {m : MethodId} {args : Array Value} {below : List Frame} {meth : Method} {c : Code} {P : PT} {N : Nat}  {r9 : Int32} {M9 : Mm} (hX : Cy p s m args c meth cX11_check 7 RX11 "check" (some .int) P)  (M : Mm) (a0 : Nat) (a1 : Int32) (h : fX11_check N M a0 a1 = some (r9, M9)) : Wq p l e s m args below meth c 4 0 (some (.int r9)) M9 7 P 0 0 [(0, .ref (pB P + a0)), (1, .int a1)] [] M := by
  unfold fX11_check at h
  obtain ⟨_, _, h⟩ := ob h
  have hX0 := hX
  obtain ⟨X, hr, hlk, hnm⟩ := hX0
  have hx := X.1.1
  have hb := X.1.2.1
  intro H locs ls hM hl
  refine lv_aload_n (pc := 0) hx hb dX11_check_0 rfl (lv_at hl 0 rfl) ?_
  obtain ⟨q1, e2, h⟩ := ob h
  refine bz_getQ (pc := 1) X hM fl_RX11_9 e2 dX11_check_1 ?_
  refine lv_bipush (pc := 4) (v := (7 : Int32)) hx hb dX11_check_4 (by decide) ?_
  obtain ⟨v3, e4, h⟩ := ob h
  refine bz_iald (pc := 6) X hM e4 dX11_check_6 ?_
  refine lv_istore_n (pc := 7) (lv' := [(2, .int v3), (0, .ref (pB P + a0)), (1, .int a1)]) hx hb dX11_check_7 rfl hl (by decide) rfl (fun ls hl => ?_)
  refine lv_aload_n (pc := 8) hx hb dX11_check_8 rfl (lv_at hl 1 rfl) ?_
  obtain ⟨q5, e6, h⟩ := ob h
  refine bz_getQ (pc := 9) X hM fl_RX11_9 e6 dX11_check_9 ?_
  refine lv_bipush (pc := 12) (v := (7 : Int32)) hx hb dX11_check_12 (by decide) ?_
  refine lv_iconst (pc := 14) (v := (0 : Int32)) hx hb dX11_check_14 (by decide) ?_
  obtain ⟨M7, e8, h⟩ := ob h
  refine bz_iast (pc := 15) X hM e8 dX11_check_15 (fun H locs hM => ?_)
  refine lv_aload_n (pc := 16) hx hb dX11_check_16 rfl (lv_at hl 1 rfl) ?_
  refine lv_iload_n (pc := 17) hx hb dX11_check_17 rfl (lv_at hl 2 rfl) ?_
  obtain ⟨v10, e9, h⟩ := ob h
  obtain ⟨fs11, hb12⟩ := (rX11_isCounting e9)
  refine bz_callV1 (pc := 18) (As := [.int a1]) (rest := []) X hM hl.1 k_RX11_219 (ctX11_isCounting l e9) rfl hb12 rfl rfl ⟨(Nat.le_of_ble_eq_true rfl), (Nat.le_of_ble_eq_true rfl)⟩ (Nat.le_of_ble_eq_true rfl) ⟨(Nat.le_of_ble_eq_true rfl), (Nat.le_of_ble_eq_true rfl)⟩ dX11_check_18 (fun H locs hM => ?_)
  refine lv_if_ne (pc := 21) (tgt := 30) hx hb dX11_check_21 (by decide) (fun hc => ?_) (fun hc => ?_)
  · have h := if_f hc h
    refine lv_aload_n (pc := 30) hx hb dX11_check_30 rfl (lv_at hl 1 rfl) ?_
    obtain ⟨M14, e13, h⟩ := ob h
    obtain ⟨fs15, hb16⟩ := (rX11_readAll e13)
    refine bz_callV0 (pc := 31) (As := []) (rest := []) X hM hl.1 k_RX11_120 (ctX11_readAll l e13) rfl hb16 rfl rfl ⟨(Nat.le_of_ble_eq_true rfl), (Nat.le_of_ble_eq_true rfl)⟩ (Nat.le_of_ble_eq_true rfl) ⟨(Nat.le_of_ble_eq_true rfl), (Nat.le_of_ble_eq_true rfl)⟩ dX11_check_31 (fun H locs hM => ?_)
    refine lv_aload_n (pc := 34) hx hb dX11_check_34 rfl (lv_at hl 1 rfl) ?_
    refine lv_iload_n (pc := 35) hx hb dX11_check_35 rfl (lv_at hl 2 rfl) ?_
    refine lv_iconst (pc := 36) (v := (1 : Int32)) hx hb dX11_check_36 (by decide) ?_
    obtain ⟨v18, e17, h⟩ := ob h
    obtain ⟨fs19, hb20⟩ := (rX11_of e17)
    refine bz_callV1 (pc := 37) (As := [.int a1, .int (1 : Int32)]) (rest := []) X hM hl.1 k_RX11_222 (ctX11_of l e17) rfl hb20 rfl rfl ⟨(Nat.le_of_ble_eq_true rfl), (Nat.le_of_ble_eq_true rfl)⟩ (Nat.le_of_ble_eq_true rfl) ⟨(Nat.le_of_ble_eq_true rfl), (Nat.le_of_ble_eq_true rfl)⟩ dX11_check_37 (fun H locs hM => ?_)
    refine lv_bipush (pc := 40) (v := (10 : Int32)) hx hb dX11_check_40 (by decide) ?_
    refine lv_idiv (pc := 42) hx hb dX11_check_42 (by decide) ?_
    refine lv_istore_n (pc := 43) (lv' := [(3, .int (v18 / (10 : Int32))), (2, .int v3), (0, .ref (pB P + a0)), (1, .int a1)]) hx hb dX11_check_43 rfl hl (by decide) rfl (fun ls hl => ?_)
    refine lv_iconst (pc := 44) (v := (0 : Int32)) hx hb dX11_check_44 (by decide) ?_
    refine lv_istore (pc := 45) (lv' := [(4, .int (0 : Int32)), (3, .int (v18 / (10 : Int32))), (2, .int v3), (0, .ref (pB P + a0)), (1, .int a1)]) hx hb dX11_check_45 hl (by decide) rfl (fun ls hl => ?_)
    refine lv_iconst (pc := 47) (v := (0 : Int32)) hx hb dX11_check_47 (by decide) ?_
    refine lv_istore (pc := 48) (lv' := [(5, .int (0 : Int32)), (4, .int (0 : Int32)), (3, .int (v18 / (10 : Int32))), (2, .int v3), (0, .ref (pB P + a0)), (1, .int a1)]) hx hb dX11_check_48 hl (by decide) rfl (fun ls hl => ?_)
    exact wLX11_check_50 hX _ _ _ _ _ _ _ _ h H locs ls hM (lv_sub hl [4, 5, 3, 2, 1, 0] rfl)
  · have h := if_t hc h
    refine lv_aload_n (pc := 24) hx hb dX11_check_24 rfl (lv_at hl 1 rfl) ?_
    refine lv_iconst (pc := 25) (v := (1 : Int32)) hx hb dX11_check_25 (by decide) ?_
    obtain ⟨v22, M23, e21, h⟩ := ob2 h
    obtain ⟨fs24, hb25⟩ := (rX11_error e21)
    refine bz_callV1 (pc := 26) (As := [.int (1 : Int32)]) (rest := []) X hM hl.1 k_RX11_73 (ctX11_error l e21) rfl hb25 rfl rfl ⟨(Nat.le_of_ble_eq_true rfl), (Nat.le_of_ble_eq_true rfl)⟩ (Nat.le_of_ble_eq_true rfl) ⟨(Nat.le_of_ble_eq_true rfl), (Nat.le_of_ble_eq_true rfl)⟩ dX11_check_26 (fun H locs hM => ?_)
    obtain ⟨rfl, rfl⟩ := so2 h
    exact bz_iret (pc := 29) X hM hr hlk dX11_check_29 (Nat.le_of_ble_eq_true rfl) (Nat.le_of_ble_eq_true rfl)
theorem rX11_check {N : Nat} {M : Mm} {a0 : Nat} {a1 : Int32} {r9 : Int32 × Mm} (h : fX11_check N M a0 a1 = some r9) : ∃ fs, M[a0]? = some (.inr (11, fs)) := by
  unfold fX11_check at h
  obtain ⟨_, e1, _⟩ := ob h
  exact gC_spec e1
theorem ctX11_check (l : Launch) {P : PT} {N : Nat} {M : Mm} {a0 : Nat} {a1 : Int32} {r9 : Int32} {M9 : Mm} (h : fX11_check N M a0 a1 = some (r9, M9)) : Ct l yX11_check cX11_check 7 (some .int) 4 0 P [.ref (pB P + a0), .int a1] M (some (.int r9)) M9 :=
  Ct.mk (by decide +kernel) (Nat.le_of_ble_eq_true rfl) (fun p e s m args below meth c hX => wX11_check hX M a0 a1 h)
set_option maxHeartbeats 4000000 in
set_option maxRecDepth 100000 in
theorem wX10_count {p : Program} {l : Launch} {e : Env} {s : State} {m : MethodId} {args : Array Value} {below : List Frame} {meth : Method} {c : Code} {P : PT}  {r9 : Int32} {M9 : Mm} (hX : Cy p s m args c meth cX10_count 2 RX10 "count" (some .int) P)  (M : Mm) (a0 : Nat) (a1 : Int32) (h : fX10_count M a0 a1 = some (r9, M9)) : Wq p l e s m args below meth c 3 0 (some (.int r9)) M9 2 P 0 0 [(0, .ref (pB P + a0)), (1, .int a1)] [] M := by
  unfold fX10_count at h
  obtain ⟨_, _, h⟩ := ob h
  have hX0 := hX
  obtain ⟨X, hr, hlk, hnm⟩ := hX0
  have hx := X.1.1
  have hb := X.1.2.1
  intro H locs ls hM hl
  refine lv_iload_n (pc := 0) hx hb dX10_count_0 rfl (lv_at hl 1 rfl) ?_
  by_cases hs0 : a1 = (0 : Int32)
  · have h := if_t hs0 h
    refine lv_tableIn (pc := 1) (off := 55) (tgt := 56) hx hb dX10_count_1 (by rw [hs0]; decide) (by rw [hs0]; decide) (by rw [hs0]; rfl) (by decide) ?_
    refine lv_aload_n (pc := 56) hx hb dX10_count_56 rfl (lv_at hl 0 rfl) ?_
    obtain ⟨q1, e2, h⟩ := ob h
    refine bz_getQ (pc := 57) X hM fl_RX10_10 e2 dX10_count_57 ?_
    obtain ⟨q3, e4, h⟩ := ob h
    refine bz_getQ (pc := 60) X hM fl_RX10_89 e4 dX10_count_60 ?_
    obtain ⟨v6, e5, h⟩ := ob h
    obtain ⟨fs7, hb8⟩ := (rX3_size e5)
    refine bz_callV1 (pc := 63) (As := []) (rest := []) X hM hl.1 k_RX10_96 (ctX3_size l e5) rfl hb8 rfl rfl ⟨(Nat.le_of_ble_eq_true rfl), (Nat.le_of_ble_eq_true rfl)⟩ (Nat.le_of_ble_eq_true rfl) ⟨(Nat.le_of_ble_eq_true rfl), (Nat.le_of_ble_eq_true rfl)⟩ dX10_count_63 (fun H locs hM => ?_)
    obtain ⟨rfl, rfl⟩ := so2 h
    exact bz_iret (pc := 66) X hM hr hlk dX10_count_66 (Nat.le_of_ble_eq_true rfl) (Nat.le_of_ble_eq_true rfl)
  have h := if_f hs0 h
  by_cases hs1 : a1 = (1 : Int32)
  · have h := if_t hs1 h
    refine lv_tableIn (pc := 1) (off := 66) (tgt := 67) hx hb dX10_count_1 (by rw [hs1]; decide) (by rw [hs1]; decide) (by rw [hs1]; rfl) (by decide) ?_
    refine lv_aload_n (pc := 67) hx hb dX10_count_67 rfl (lv_at hl 0 rfl) ?_
    obtain ⟨q9, e10, h⟩ := ob h
    refine bz_getQ (pc := 68) X hM fl_RX10_10 e10 dX10_count_68 ?_
    obtain ⟨v12, e11, h⟩ := ob h
    obtain ⟨fs13, hb14⟩ := (rX6_rings e11)
    refine bz_callV1 (pc := 71) (As := []) (rest := []) X hM hl.1 k_RX10_112 (ctX6_rings l e11) rfl hb14 rfl rfl ⟨(Nat.le_of_ble_eq_true rfl), (Nat.le_of_ble_eq_true rfl)⟩ (Nat.le_of_ble_eq_true rfl) ⟨(Nat.le_of_ble_eq_true rfl), (Nat.le_of_ble_eq_true rfl)⟩ dX10_count_71 (fun H locs hM => ?_)
    obtain ⟨rfl, rfl⟩ := so2 h
    exact bz_iret (pc := 74) X hM hr hlk dX10_count_74 (Nat.le_of_ble_eq_true rfl) (Nat.le_of_ble_eq_true rfl)
  have h := if_f hs1 h
  by_cases hs2 : a1 = (2 : Int32)
  · have h := if_t hs2 h
    refine lv_tableIn (pc := 1) (off := 74) (tgt := 75) hx hb dX10_count_1 (by rw [hs2]; decide) (by rw [hs2]; decide) (by rw [hs2]; rfl) (by decide) ?_
    refine lv_aload_n (pc := 75) hx hb dX10_count_75 rfl (lv_at hl 0 rfl) ?_
    obtain ⟨q15, e16, h⟩ := ob h
    refine bz_getQ (pc := 76) X hM fl_RX10_10 e16 dX10_count_76 ?_
    obtain ⟨v18, e17, h⟩ := ob h
    obtain ⟨fs19, hb20⟩ := (rX6_countings e17)
    refine bz_callV1 (pc := 79) (As := []) (rest := []) X hM hl.1 k_RX10_227 (ctX6_countings l e17) rfl hb20 rfl rfl ⟨(Nat.le_of_ble_eq_true rfl), (Nat.le_of_ble_eq_true rfl)⟩ (Nat.le_of_ble_eq_true rfl) ⟨(Nat.le_of_ble_eq_true rfl), (Nat.le_of_ble_eq_true rfl)⟩ dX10_count_79 (fun H locs hM => ?_)
    obtain ⟨rfl, rfl⟩ := so2 h
    exact bz_iret (pc := 82) X hM hr hlk dX10_count_82 (Nat.le_of_ble_eq_true rfl) (Nat.le_of_ble_eq_true rfl)
  have h := if_f hs2 h
  by_cases hs3 : a1 = (3 : Int32)
  · have h := if_t hs3 h
    refine lv_tableIn (pc := 1) (off := 82) (tgt := 83) hx hb dX10_count_1 (by rw [hs3]; decide) (by rw [hs3]; decide) (by rw [hs3]; rfl) (by decide) ?_
    refine lv_aload_n (pc := 83) hx hb dX10_count_83 rfl (lv_at hl 0 rfl) ?_
    obtain ⟨q21, e22, h⟩ := ob h
    refine bz_getQ (pc := 84) X hM fl_RX10_10 e22 dX10_count_84 ?_
    obtain ⟨q23, e24, h⟩ := ob h
    refine bz_getQ (pc := 87) X hM fl_RX10_280 e24 dX10_count_87 ?_
    obtain ⟨v26, e25, h⟩ := ob h
    obtain ⟨fs27, hb28⟩ := (rX3_size e25)
    refine bz_callV1 (pc := 90) (As := []) (rest := []) X hM hl.1 k_RX10_96 (ctX3_size l e25) rfl hb28 rfl rfl ⟨(Nat.le_of_ble_eq_true rfl), (Nat.le_of_ble_eq_true rfl)⟩ (Nat.le_of_ble_eq_true rfl) ⟨(Nat.le_of_ble_eq_true rfl), (Nat.le_of_ble_eq_true rfl)⟩ dX10_count_90 (fun H locs hM => ?_)
    obtain ⟨rfl, rfl⟩ := so2 h
    exact bz_iret (pc := 93) X hM hr hlk dX10_count_93 (Nat.le_of_ble_eq_true rfl) (Nat.le_of_ble_eq_true rfl)
  have h := if_f hs3 h
  by_cases hs4 : a1 = (4 : Int32)
  · have h := if_t hs4 h
    refine lv_tableIn (pc := 1) (off := 93) (tgt := 94) hx hb dX10_count_1 (by rw [hs4]; decide) (by rw [hs4]; decide) (by rw [hs4]; rfl) (by decide) ?_
    refine lv_aload_n (pc := 94) hx hb dX10_count_94 rfl (lv_at hl 0 rfl) ?_
    obtain ⟨q29, e30, h⟩ := ob h
    refine bz_getQ (pc := 95) X hM fl_RX10_10 e30 dX10_count_95 ?_
    obtain ⟨q31, e32, h⟩ := ob h
    refine bz_getQ (pc := 98) X hM fl_RX10_290 e32 dX10_count_98 ?_
    obtain ⟨v34, e33, h⟩ := ob h
    obtain ⟨fs35, hb36⟩ := (rX3_size e33)
    refine bz_callV1 (pc := 101) (As := []) (rest := []) X hM hl.1 k_RX10_96 (ctX3_size l e33) rfl hb36 rfl rfl ⟨(Nat.le_of_ble_eq_true rfl), (Nat.le_of_ble_eq_true rfl)⟩ (Nat.le_of_ble_eq_true rfl) ⟨(Nat.le_of_ble_eq_true rfl), (Nat.le_of_ble_eq_true rfl)⟩ dX10_count_101 (fun H locs hM => ?_)
    obtain ⟨rfl, rfl⟩ := so2 h
    exact bz_iret (pc := 104) X hM hr hlk dX10_count_104 (Nat.le_of_ble_eq_true rfl) (Nat.le_of_ble_eq_true rfl)
  have h := if_f hs4 h
  by_cases hs5 : a1 = (5 : Int32)
  · have h := if_t hs5 h
    refine lv_tableIn (pc := 1) (off := 104) (tgt := 105) hx hb dX10_count_1 (by rw [hs5]; decide) (by rw [hs5]; decide) (by rw [hs5]; rfl) (by decide) ?_
    refine lv_aload_n (pc := 105) hx hb dX10_count_105 rfl (lv_at hl 0 rfl) ?_
    obtain ⟨q37, e38, h⟩ := ob h
    refine bz_getQ (pc := 106) X hM fl_RX10_10 e38 dX10_count_106 ?_
    obtain ⟨q39, e40, h⟩ := ob h
    refine bz_getQ (pc := 109) X hM fl_RX10_347 e40 dX10_count_109 ?_
    obtain ⟨v42, e41, h⟩ := ob h
    obtain ⟨fs43, hb44⟩ := (rX3_size e41)
    refine bz_callV1 (pc := 112) (As := []) (rest := []) X hM hl.1 k_RX10_96 (ctX3_size l e41) rfl hb44 rfl rfl ⟨(Nat.le_of_ble_eq_true rfl), (Nat.le_of_ble_eq_true rfl)⟩ (Nat.le_of_ble_eq_true rfl) ⟨(Nat.le_of_ble_eq_true rfl), (Nat.le_of_ble_eq_true rfl)⟩ dX10_count_112 (fun H locs hM => ?_)
    obtain ⟨rfl, rfl⟩ := so2 h
    exact bz_iret (pc := 115) X hM hr hlk dX10_count_115 (Nat.le_of_ble_eq_true rfl) (Nat.le_of_ble_eq_true rfl)
  have h := if_f hs5 h
  by_cases hs6 : a1 = (6 : Int32)
  · have h := if_t hs6 h
    refine lv_tableIn (pc := 1) (off := 115) (tgt := 116) hx hb dX10_count_1 (by rw [hs6]; decide) (by rw [hs6]; decide) (by rw [hs6]; rfl) (by decide) ?_
    refine lv_aload_n (pc := 116) hx hb dX10_count_116 rfl (lv_at hl 0 rfl) ?_
    obtain ⟨q45, e46, h⟩ := ob h
    refine bz_getQ (pc := 117) X hM fl_RX10_10 e46 dX10_count_117 ?_
    obtain ⟨q47, e48, h⟩ := ob h
    refine bz_getQ (pc := 120) X hM fl_RX10_173 e48 dX10_count_120 ?_
    obtain ⟨v50, e49, h⟩ := ob h
    obtain ⟨fs51, hb52⟩ := (rX3_size e49)
    refine bz_callV1 (pc := 123) (As := []) (rest := []) X hM hl.1 k_RX10_96 (ctX3_size l e49) rfl hb52 rfl rfl ⟨(Nat.le_of_ble_eq_true rfl), (Nat.le_of_ble_eq_true rfl)⟩ (Nat.le_of_ble_eq_true rfl) ⟨(Nat.le_of_ble_eq_true rfl), (Nat.le_of_ble_eq_true rfl)⟩ dX10_count_123 (fun H locs hM => ?_)
    obtain ⟨rfl, rfl⟩ := so2 h
    exact bz_iret (pc := 126) X hM hr hlk dX10_count_126 (Nat.le_of_ble_eq_true rfl) (Nat.le_of_ble_eq_true rfl)
  have h := if_f hs6 h
  by_cases hs7 : a1 = (7 : Int32)
  · have h := if_t hs7 h
    refine lv_tableIn (pc := 1) (off := 126) (tgt := 127) hx hb dX10_count_1 (by rw [hs7]; decide) (by rw [hs7]; decide) (by rw [hs7]; rfl) (by decide) ?_
    refine lv_aload_n (pc := 127) hx hb dX10_count_127 rfl (lv_at hl 0 rfl) ?_
    obtain ⟨q53, e54, h⟩ := ob h
    refine bz_getQ (pc := 128) X hM fl_RX10_10 e54 dX10_count_128 ?_
    obtain ⟨q55, e56, h⟩ := ob h
    refine bz_getQ (pc := 131) X hM fl_RX10_397 e56 dX10_count_131 ?_
    obtain ⟨v58, e57, h⟩ := ob h
    obtain ⟨fs59, hb60⟩ := (rX3_size e57)
    refine bz_callV1 (pc := 134) (As := []) (rest := []) X hM hl.1 k_RX10_96 (ctX3_size l e57) rfl hb60 rfl rfl ⟨(Nat.le_of_ble_eq_true rfl), (Nat.le_of_ble_eq_true rfl)⟩ (Nat.le_of_ble_eq_true rfl) ⟨(Nat.le_of_ble_eq_true rfl), (Nat.le_of_ble_eq_true rfl)⟩ dX10_count_134 (fun H locs hM => ?_)
    obtain ⟨rfl, rfl⟩ := so2 h
    exact bz_iret (pc := 137) X hM hr hlk dX10_count_137 (Nat.le_of_ble_eq_true rfl) (Nat.le_of_ble_eq_true rfl)
  have h := if_f hs7 h
  by_cases hs8 : a1 = (8 : Int32)
  · have h := if_t hs8 h
    refine lv_tableIn (pc := 1) (off := 137) (tgt := 138) hx hb dX10_count_1 (by rw [hs8]; decide) (by rw [hs8]; decide) (by rw [hs8]; rfl) (by decide) ?_
    refine lv_aload_n (pc := 138) hx hb dX10_count_138 rfl (lv_at hl 0 rfl) ?_
    obtain ⟨q61, e62, h⟩ := ob h
    refine bz_getQ (pc := 139) X hM fl_RX10_63 e62 dX10_count_139 ?_
    obtain ⟨q63, e64, h⟩ := ob h
    refine bz_getQ (pc := 142) X hM fl_RX10_369 e64 dX10_count_142 ?_
    obtain ⟨v66, e65, h⟩ := ob h
    obtain ⟨fs67, hb68⟩ := (rX3_size e65)
    refine bz_callV1 (pc := 145) (As := []) (rest := []) X hM hl.1 k_RX10_96 (ctX3_size l e65) rfl hb68 rfl rfl ⟨(Nat.le_of_ble_eq_true rfl), (Nat.le_of_ble_eq_true rfl)⟩ (Nat.le_of_ble_eq_true rfl) ⟨(Nat.le_of_ble_eq_true rfl), (Nat.le_of_ble_eq_true rfl)⟩ dX10_count_145 (fun H locs hM => ?_)
    obtain ⟨rfl, rfl⟩ := so2 h
    exact bz_iret (pc := 148) X hM hr hlk dX10_count_148 (Nat.le_of_ble_eq_true rfl) (Nat.le_of_ble_eq_true rfl)
  have h := if_f hs8 h
  by_cases hs9 : a1 = (9 : Int32)
  · have h := if_t hs9 h
    refine lv_tableIn (pc := 1) (off := 148) (tgt := 149) hx hb dX10_count_1 (by rw [hs9]; decide) (by rw [hs9]; decide) (by rw [hs9]; rfl) (by decide) ?_
    refine lv_aload_n (pc := 149) hx hb dX10_count_149 rfl (lv_at hl 0 rfl) ?_
    obtain ⟨q69, e70, h⟩ := ob h
    refine bz_getQ (pc := 150) X hM fl_RX10_10 e70 dX10_count_150 ?_
    obtain ⟨v71, e72, h⟩ := ob h
    refine bz_getI (pc := 153) X hM fl_RX10_356 e72 dX10_count_153 ?_
    obtain ⟨rfl, rfl⟩ := so2 h
    exact bz_iret (pc := 156) X hM hr hlk dX10_count_156 (Nat.le_of_ble_eq_true rfl) (Nat.le_of_ble_eq_true rfl)
  have h := if_f hs9 h
  have ho : (a1).toInt < 0 ∨ 9 < (a1).toInt := by
    have hs0 := lv_neT hs0 (a := 0) (by decide)
    have hs1 := lv_neT hs1 (a := 1) (by decide)
    have hs2 := lv_neT hs2 (a := 2) (by decide)
    have hs3 := lv_neT hs3 (a := 3) (by decide)
    have hs4 := lv_neT hs4 (a := 4) (by decide)
    have hs5 := lv_neT hs5 (a := 5) (by decide)
    have hs6 := lv_neT hs6 (a := 6) (by decide)
    have hs7 := lv_neT hs7 (a := 7) (by decide)
    have hs8 := lv_neT hs8 (a := 8) (by decide)
    have hs9 := lv_neT hs9 (a := 9) (by decide)
    omega
  refine lv_tableOut (pc := 1) (tgt := 157) hx hb dX10_count_1 ho (by decide) ?_
  refine lv_aload_n (pc := 157) hx hb dX10_count_157 rfl (lv_at hl 0 rfl) ?_
  refine lv_iconst (pc := 158) (v := (1 : Int32)) hx hb dX10_count_158 (by decide) ?_
  obtain ⟨v74, M75, e73, h⟩ := ob2 h
  obtain ⟨fs76, hb77⟩ := (rX10_error e73)
  refine bz_callV1 (pc := 159) (As := [.int (1 : Int32)]) (rest := []) X hM hl.1 k_RX10_78 (ctX10_error l e73) rfl hb77 rfl rfl ⟨(Nat.le_of_ble_eq_true rfl), (Nat.le_of_ble_eq_true rfl)⟩ (Nat.le_of_ble_eq_true rfl) ⟨(Nat.le_of_ble_eq_true rfl), (Nat.le_of_ble_eq_true rfl)⟩ dX10_count_159 (fun H locs hM => ?_)
  obtain ⟨rfl, rfl⟩ := so2 h
  exact bz_iret (pc := 162) X hM hr hlk dX10_count_162 (Nat.le_of_ble_eq_true rfl) (Nat.le_of_ble_eq_true rfl)
theorem rX10_count {M : Mm} {a0 : Nat} {a1 : Int32} {r9 : Int32 × Mm} (h : fX10_count M a0 a1 = some r9) : ∃ fs, M[a0]? = some (.inr (10, fs)) := by
  unfold fX10_count at h
  obtain ⟨_, e1, _⟩ := ob h
  exact gC_spec e1
theorem ctX10_count (l : Launch) {P : PT} {M : Mm} {a0 : Nat} {a1 : Int32} {r9 : Int32} {M9 : Mm} (h : fX10_count M a0 a1 = some (r9, M9)) : Ct l yX10_count cX10_count 2 (some .int) 3 0 P [.ref (pB P + a0), .int a1] M (some (.int r9)) M9 :=
  Ct.mk (by decide +kernel) (Nat.le_of_ble_eq_true rfl) (fun p e s m args below meth c hX => wX10_count hX M a0 a1 h)
set_option maxHeartbeats 4000000 in
set_option maxRecDepth 100000 in
theorem wX11_count {p : Program} {l : Launch} {e : Env} {s : State} {m : MethodId} {args : Array Value} {below : List Frame} {meth : Method} {c : Code} {P : PT}  {r9 : Int32} {M9 : Mm} (hX : Cy p s m args c meth cX11_count 2 RX11 "count" (some .int) P)  (M : Mm) (a0 : Nat) (a1 : Int32) (h : fX11_count M a0 a1 = some (r9, M9)) : Wq p l e s m args below meth c 1 0 (some (.int r9)) M9 2 P 0 0 [(0, .ref (pB P + a0)), (1, .int a1)] [] M := by
  unfold fX11_count at h
  obtain ⟨_, _, h⟩ := ob h
  have hX0 := hX
  obtain ⟨X, hr, hlk, hnm⟩ := hX0
  have hx := X.1.1
  have hb := X.1.2.1
  intro H locs ls hM hl
  refine lv_iload_n (pc := 0) hx hb dX11_count_0 rfl (lv_at hl 1 rfl) ?_
  refine lv_i2l (pc := 1) (v := ((a1).toInt64)) hx hb dX11_count_1 rfl ?_
  refine lv_lconst (pc := 2) (v := (0 : Int64)) hx hb dX11_count_2 (by decide) ?_
  refine lv_ldc2 (pc := 3) (v := (7 : Int64)) hx hb X.1.2.2.2.1 (X.1.2.2.2.2 _ g_1460) dX11_count_3 ?_
  obtain ⟨v2, e1, h⟩ := ob h
  refine bz_callS1 (pc := 6) (As := [.long ((a1).toInt64), .long (0 : Int64), .long (7 : Int64)]) (rest := []) X hM hl.1 k_RX11_57 (ctX11_in l e1) rfl rfl ⟨(Nat.le_of_ble_eq_true rfl), (Nat.le_of_ble_eq_true rfl)⟩ (Nat.le_of_ble_eq_true rfl) ⟨(Nat.le_of_ble_eq_true rfl), (Nat.le_of_ble_eq_true rfl)⟩ dX11_count_6 (fun H locs hM => ?_)
  refine lv_if_eq (pc := 9) (tgt := 19) hx hb dX11_count_9 (by decide) (fun hc => ?_) (fun hc => ?_)
  · have h := if_t hc h
    refine lv_iload_n (pc := 19) hx hb dX11_count_19 rfl (lv_at hl 1 rfl) ?_
    refine lv_bipush (pc := 20) (v := (8 : Int32)) hx hb dX11_count_20 (by decide) ?_
    refine lv_icmp_ne (pc := 22) (tgt := 32) hx hb dX11_count_22 (by decide) (fun hc => ?_) (fun hc => ?_)
    · have h := if_f hc h
      refine lv_iload_n (pc := 32) hx hb dX11_count_32 rfl (lv_at hl 1 rfl) ?_
      refine lv_bipush (pc := 33) (v := (9 : Int32)) hx hb dX11_count_33 (by decide) ?_
      refine lv_icmp_ne (pc := 35) (tgt := 48) hx hb dX11_count_35 (by decide) (fun hc => ?_) (fun hc => ?_)
      · have h := if_f hc h
        refine lv_aload_n (pc := 48) hx hb dX11_count_48 rfl (lv_at hl 0 rfl) ?_
        refine lv_iconst (pc := 49) (v := (1 : Int32)) hx hb dX11_count_49 (by decide) ?_
        obtain ⟨v4, M5, e3, h⟩ := ob2 h
        obtain ⟨fs6, hb7⟩ := (rX11_error e3)
        refine bz_callV1 (pc := 50) (As := [.int (1 : Int32)]) (rest := []) X hM hl.1 k_RX11_73 (ctX11_error l e3) rfl hb7 rfl rfl ⟨(Nat.le_of_ble_eq_true rfl), (Nat.le_of_ble_eq_true rfl)⟩ (Nat.le_of_ble_eq_true rfl) ⟨(Nat.le_of_ble_eq_true rfl), (Nat.le_of_ble_eq_true rfl)⟩ dX11_count_50 (fun H locs hM => ?_)
        obtain ⟨rfl, rfl⟩ := so2 h
        exact bz_iret (pc := 53) X hM hr hlk dX11_count_53 (Nat.le_of_ble_eq_true rfl) (Nat.le_of_ble_eq_true rfl)
      · have h := if_t hc h
        refine lv_aload_n (pc := 38) hx hb dX11_count_38 rfl (lv_at hl 0 rfl) ?_
        obtain ⟨q8, e9, h⟩ := ob h
        refine bz_getQ (pc := 39) X hM fl_RX11_9 e9 dX11_count_39 ?_
        refine lv_bipush (pc := 42) (v := (8 : Int32)) hx hb dX11_count_42 (by decide) ?_
        obtain ⟨v10, e11, h⟩ := ob h
        refine bz_iald (pc := 44) X hM e11 dX11_count_44 ?_
        refine lv_goto (pc := 45) (tgt := 53) hx hb dX11_count_45 (by decide) ?_
        obtain ⟨rfl, rfl⟩ := so2 h
        exact bz_iret (pc := 53) X hM hr hlk dX11_count_53 (Nat.le_of_ble_eq_true rfl) (Nat.le_of_ble_eq_true rfl)
    · have h := if_t hc h
      refine lv_aload_n (pc := 25) hx hb dX11_count_25 rfl (lv_at hl 0 rfl) ?_
      obtain ⟨v12, e13, h⟩ := ob h
      refine bz_getI (pc := 26) X hM fl_RX11_319 e13 dX11_count_26 ?_
      refine lv_goto (pc := 29) (tgt := 53) hx hb dX11_count_29 (by decide) ?_
      obtain ⟨rfl, rfl⟩ := so2 h
      exact bz_iret (pc := 53) X hM hr hlk dX11_count_53 (Nat.le_of_ble_eq_true rfl) (Nat.le_of_ble_eq_true rfl)
  · have h := if_f hc h
    refine lv_aload_n (pc := 12) hx hb dX11_count_12 rfl (lv_at hl 0 rfl) ?_
    obtain ⟨q14, e15, h⟩ := ob h
    refine bz_getQ (pc := 13) X hM fl_RX11_9 e15 dX11_count_13 ?_
    refine lv_iload_n (pc := 16) hx hb dX11_count_16 rfl (lv_at hl 1 rfl) ?_
    obtain ⟨v16, e17, h⟩ := ob h
    refine bz_iald (pc := 17) X hM e17 dX11_count_17 ?_
    obtain ⟨rfl, rfl⟩ := so2 h
    exact bz_iret (pc := 18) X hM hr hlk dX11_count_18 (Nat.le_of_ble_eq_true rfl) (Nat.le_of_ble_eq_true rfl)
theorem rX11_count {M : Mm} {a0 : Nat} {a1 : Int32} {r9 : Int32 × Mm} (h : fX11_count M a0 a1 = some r9) : ∃ fs, M[a0]? = some (.inr (11, fs)) := by
  unfold fX11_count at h
  obtain ⟨_, e1, _⟩ := ob h
  exact gC_spec e1
theorem ctX11_count (l : Launch) {P : PT} {M : Mm} {a0 : Nat} {a1 : Int32} {r9 : Int32} {M9 : Mm} (h : fX11_count M a0 a1 = some (r9, M9)) : Ct l yX11_count cX11_count 2 (some .int) 1 0 P [.ref (pB P + a0), .int a1] M (some (.int r9)) M9 :=
  Ct.mk (by decide +kernel) (Nat.le_of_ble_eq_true rfl) (fun p e s m args below meth c hX => wX11_count hX M a0 a1 h)
set_option maxHeartbeats 4000000 in
set_option maxRecDepth 100000 in
theorem wX10_told {p : Program} {l : Launch} {e : Env} {s : State} {m : MethodId} {args : Array Value} {below : List Frame} {meth : Method} {c : Code} {P : PT}  {r9 : Int32} {M9 : Mm} (hX : Cy p s m args c meth cX10_told 2 RX10 "told" (some .int) P)  (M : Mm) (a0 : Nat) (a1 : Int32) (h : fX10_told M a0 a1 = some (r9, M9)) : Wq p l e s m args below meth c 3 0 (some (.int r9)) M9 2 P 0 0 [(0, .ref (pB P + a0)), (1, .int a1)] [] M := by
  unfold fX10_told at h
  obtain ⟨_, _, h⟩ := ob h
  have hX0 := hX
  obtain ⟨X, hr, hlk, hnm⟩ := hX0
  have hx := X.1.1
  have hb := X.1.2.1
  intro H locs ls hM hl
  refine lv_iload_n (pc := 0) hx hb dX10_told_0 rfl (lv_at hl 1 rfl) ?_
  refine lv_iconst (pc := 1) (v := (1 : Int32)) hx hb dX10_told_1 (by decide) ?_
  refine lv_iconst (pc := 2) (v := (5 : Int32)) hx hb dX10_told_2 (by decide) ?_
  obtain ⟨v2, e1, h⟩ := ob h
  refine bz_callS1 (pc := 3) (As := [.int a1, .int (1 : Int32), .int (5 : Int32)]) (rest := []) X hM hl.1 k_RX10_74 (ctX10_within l e1) rfl rfl ⟨(Nat.le_of_ble_eq_true rfl), (Nat.le_of_ble_eq_true rfl)⟩ (Nat.le_of_ble_eq_true rfl) ⟨(Nat.le_of_ble_eq_true rfl), (Nat.le_of_ble_eq_true rfl)⟩ dX10_told_3 (fun H locs hM => ?_)
  refine lv_if_ne (pc := 6) (tgt := 15) hx hb dX10_told_6 (by decide) (fun hc => ?_) (fun hc => ?_)
  · have h := if_f hc h
    refine lv_aload_n (pc := 15) hx hb dX10_told_15 rfl (lv_at hl 0 rfl) ?_
    obtain ⟨q3, e4, h⟩ := ob h
    refine bz_getQ (pc := 16) X hM fl_RX10_24 e4 dX10_told_16 ?_
    refine lv_iload_n (pc := 19) hx hb dX10_told_19 rfl (lv_at hl 1 rfl) ?_
    obtain ⟨v6, e5, h⟩ := ob h
    obtain ⟨fs7, hb8⟩ := (rX3_at e5)
    refine bz_callV1 (pc := 20) (As := [.int a1]) (rest := []) X hM hl.1 k_RX10_121 (ctX3_at l e5) rfl hb8 rfl rfl ⟨(Nat.le_of_ble_eq_true rfl), (Nat.le_of_ble_eq_true rfl)⟩ (Nat.le_of_ble_eq_true rfl) ⟨(Nat.le_of_ble_eq_true rfl), (Nat.le_of_ble_eq_true rfl)⟩ dX10_told_20 (fun H locs hM => ?_)
    obtain ⟨rfl, rfl⟩ := so2 h
    exact bz_iret (pc := 23) X hM hr hlk dX10_told_23 (Nat.le_of_ble_eq_true rfl) (Nat.le_of_ble_eq_true rfl)
  · have h := if_t hc h
    refine lv_aload_n (pc := 9) hx hb dX10_told_9 rfl (lv_at hl 0 rfl) ?_
    refine lv_iconst (pc := 10) (v := (1 : Int32)) hx hb dX10_told_10 (by decide) ?_
    obtain ⟨v10, M11, e9, h⟩ := ob2 h
    obtain ⟨fs12, hb13⟩ := (rX10_error e9)
    refine bz_callV1 (pc := 11) (As := [.int (1 : Int32)]) (rest := []) X hM hl.1 k_RX10_78 (ctX10_error l e9) rfl hb13 rfl rfl ⟨(Nat.le_of_ble_eq_true rfl), (Nat.le_of_ble_eq_true rfl)⟩ (Nat.le_of_ble_eq_true rfl) ⟨(Nat.le_of_ble_eq_true rfl), (Nat.le_of_ble_eq_true rfl)⟩ dX10_told_11 (fun H locs hM => ?_)
    obtain ⟨rfl, rfl⟩ := so2 h
    exact bz_iret (pc := 14) X hM hr hlk dX10_told_14 (Nat.le_of_ble_eq_true rfl) (Nat.le_of_ble_eq_true rfl)
theorem rX10_told {M : Mm} {a0 : Nat} {a1 : Int32} {r9 : Int32 × Mm} (h : fX10_told M a0 a1 = some r9) : ∃ fs, M[a0]? = some (.inr (10, fs)) := by
  unfold fX10_told at h
  obtain ⟨_, e1, _⟩ := ob h
  exact gC_spec e1
theorem ctX10_told (l : Launch) {P : PT} {M : Mm} {a0 : Nat} {a1 : Int32} {r9 : Int32} {M9 : Mm} (h : fX10_told M a0 a1 = some (r9, M9)) : Ct l yX10_told cX10_told 2 (some .int) 3 0 P [.ref (pB P + a0), .int a1] M (some (.int r9)) M9 :=
  Ct.mk (by decide +kernel) (Nat.le_of_ble_eq_true rfl) (fun p e s m args below meth c hX => wX10_told hX M a0 a1 h)
set_option maxHeartbeats 4000000 in
set_option maxRecDepth 100000 in
theorem wX11_told {p : Program} {l : Launch} {e : Env} {s : State} {m : MethodId} {args : Array Value} {below : List Frame} {meth : Method} {c : Code} {P : PT}  {r9 : Int32} {M9 : Mm} (hX : Cy p s m args c meth cX11_told 2 RX11 "told" (some .int) P)  (M : Mm) (a0 : Nat) (a1 : Int32) (h : fX11_told M a0 a1 = some (r9, M9)) : Wq p l e s m args below meth c 1 0 (some (.int r9)) M9 2 P 0 0 [(0, .ref (pB P + a0)), (1, .int a1)] [] M := by
  unfold fX11_told at h
  obtain ⟨_, _, h⟩ := ob h
  have hX0 := hX
  obtain ⟨X, hr, hlk, hnm⟩ := hX0
  have hx := X.1.1
  have hb := X.1.2.1
  intro H locs ls hM hl
  refine lv_iload_n (pc := 0) hx hb dX11_told_0 rfl (lv_at hl 1 rfl) ?_
  refine lv_i2l (pc := 1) (v := ((a1).toInt64)) hx hb dX11_told_1 rfl ?_
  refine lv_lconst (pc := 2) (v := (1 : Int64)) hx hb dX11_told_2 (by decide) ?_
  refine lv_ldc2 (pc := 3) (v := (5 : Int64)) hx hb X.1.2.2.2.1 (X.1.2.2.2.2 _ g_1451) dX11_told_3 ?_
  obtain ⟨v2, e1, h⟩ := ob h
  refine bz_callS1 (pc := 6) (As := [.long ((a1).toInt64), .long (1 : Int64), .long (5 : Int64)]) (rest := []) X hM hl.1 k_RX11_57 (ctX11_in l e1) rfl rfl ⟨(Nat.le_of_ble_eq_true rfl), (Nat.le_of_ble_eq_true rfl)⟩ (Nat.le_of_ble_eq_true rfl) ⟨(Nat.le_of_ble_eq_true rfl), (Nat.le_of_ble_eq_true rfl)⟩ dX11_told_6 (fun H locs hM => ?_)
  refine lv_if_eq (pc := 9) (tgt := 21) hx hb dX11_told_9 (by decide) (fun hc => ?_) (fun hc => ?_)
  · have h := if_t hc h
    refine lv_aload_n (pc := 21) hx hb dX11_told_21 rfl (lv_at hl 0 rfl) ?_
    refine lv_iconst (pc := 22) (v := (1 : Int32)) hx hb dX11_told_22 (by decide) ?_
    obtain ⟨v4, M5, e3, h⟩ := ob2 h
    obtain ⟨fs6, hb7⟩ := (rX11_error e3)
    refine bz_callV1 (pc := 23) (As := [.int (1 : Int32)]) (rest := []) X hM hl.1 k_RX11_73 (ctX11_error l e3) rfl hb7 rfl rfl ⟨(Nat.le_of_ble_eq_true rfl), (Nat.le_of_ble_eq_true rfl)⟩ (Nat.le_of_ble_eq_true rfl) ⟨(Nat.le_of_ble_eq_true rfl), (Nat.le_of_ble_eq_true rfl)⟩ dX11_told_23 (fun H locs hM => ?_)
    obtain ⟨rfl, rfl⟩ := so2 h
    exact bz_iret (pc := 26) X hM hr hlk dX11_told_26 (Nat.le_of_ble_eq_true rfl) (Nat.le_of_ble_eq_true rfl)
  · have h := if_f hc h
    refine lv_aload_n (pc := 12) hx hb dX11_told_12 rfl (lv_at hl 0 rfl) ?_
    obtain ⟨q8, e9, h⟩ := ob h
    refine bz_getQ (pc := 13) X hM fl_RX11_16 e9 dX11_told_13 ?_
    refine lv_iload_n (pc := 16) hx hb dX11_told_16 rfl (lv_at hl 1 rfl) ?_
    obtain ⟨v10, e11, h⟩ := ob h
    refine bz_iald (pc := 17) X hM e11 dX11_told_17 ?_
    refine lv_goto (pc := 18) (tgt := 26) hx hb dX11_told_18 (by decide) ?_
    obtain ⟨rfl, rfl⟩ := so2 h
    exact bz_iret (pc := 26) X hM hr hlk dX11_told_26 (Nat.le_of_ble_eq_true rfl) (Nat.le_of_ble_eq_true rfl)
theorem rX11_told {M : Mm} {a0 : Nat} {a1 : Int32} {r9 : Int32 × Mm} (h : fX11_told M a0 a1 = some r9) : ∃ fs, M[a0]? = some (.inr (11, fs)) := by
  unfold fX11_told at h
  obtain ⟨_, e1, _⟩ := ob h
  exact gC_spec e1
theorem ctX11_told (l : Launch) {P : PT} {M : Mm} {a0 : Nat} {a1 : Int32} {r9 : Int32} {M9 : Mm} (h : fX11_told M a0 a1 = some (r9, M9)) : Ct l yX11_told cX11_told 2 (some .int) 1 0 P [.ref (pB P + a0), .int a1] M (some (.int r9)) M9 :=
  Ct.mk (by decide +kernel) (Nat.le_of_ble_eq_true rfl) (fun p e s m args below meth c hX => wX11_told hX M a0 a1 h)
