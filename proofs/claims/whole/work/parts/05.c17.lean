set_option maxHeartbeats 4000000 in
set_option maxRecDepth 100000 in
theorem wBX1_markSlides_18 {p : Program} {l : Launch} {e : Env} {s : State} {m : MethodId} {args : Array Value} {below : List Frame} {meth : Method} {c : Code} {P : PT} {N : Nat} {K18 : Mm → Nat → Int32 → Int32 → Int32 → Int32 → Int32 → Option (Mm)}  {M9 : Mm} (hX : Cy p s m args c meth cX1_markSlides 9 RX1 "markSlides" none P)  (hK18 : ∀ (M : Mm) (x0 : Nat) (x1 : Int32) (x2 : Int32) (x3 : Int32) (x4 : Int32) (x5 : Int32), K18 M x0 x1 x2 x3 x4 x5 = some M9 → Wq p l e s m args below meth c 2 0 none M9 9 P 0 18 [(0, .ref (pB P + x0)), (1, .int x1), (2, .int x2), (3, .int x3), (4, .int x4), (5, .int x5)] [] M) (M : Mm) (x0 : Nat) (x1 : Int32) (x2 : Int32) (x3 : Int32) (x4 : Int32) (x5 : Int32)  (h : BX1_markSlides_18 N K18 M x0 x1 x2 x3 x4 x5 = some M9) : Wq p l e s m args below meth c 2 0 none M9 9 P 0 18 [(0, .ref (pB P + x0)), (1, .int x1), (2, .int x2), (3, .int x3), (4, .int x4), (5, .int x5)] [] M := by
  unfold BX1_markSlides_18 at h
  have hX0 := hX
  obtain ⟨X, hr, hlk, hnm⟩ := hX0
  have hx := X.1.1
  have hb := X.1.2.1
  intro H locs ls hM hl
  refine lv_iload (pc := 18) hx hb dX1_markSlides_18 (lv_at hl 5 rfl) ?_
  refine lv_if_lt (pc := 20) (tgt := 105) hx hb dX1_markSlides_20 (by decide) (fun hc => ?_) (fun hc => ?_)
  · have h := if_t hc h
    obtain rfl := so1 h
    exact bz_vret (pc := 105) X hM hr hlk dX1_markSlides_105 (Nat.le_of_ble_eq_true rfl) (Nat.le_of_ble_eq_true rfl)
  · have h := if_f hc h
    refine lv_iload_n (pc := 23) hx hb dX1_markSlides_23 rfl (lv_at hl 1 rfl) ?_
    refine lv_aload_n (pc := 24) hx hb dX1_markSlides_24 rfl (lv_at hl 0 rfl) ?_
    obtain ⟨q1, e2, h⟩ := ob h
    refine bz_getQ (pc := 25) X hM fl_RX1_18 e2 dX1_markSlides_25 ?_
    obtain ⟨q3, e4, h⟩ := ob h
    refine bz_getQ (pc := 28) X hM fl_RX1_40 e4 dX1_markSlides_28 ?_
    refine lv_iload (pc := 31) hx hb dX1_markSlides_31 (lv_at hl 5 rfl) ?_
    obtain ⟨v6, e5, h⟩ := ob h
    obtain ⟨fs7, hb8⟩ := (rX3_at e5)
    refine bz_callV1 (pc := 33) (As := [.int x5]) (rest := [.int x1]) X hM hl.1 k_RX1_50 (ctX3_at l e5) rfl hb8 rfl rfl ⟨(Nat.le_of_ble_eq_true rfl), (Nat.le_of_ble_eq_true rfl)⟩ (Nat.le_of_ble_eq_true rfl) ⟨(Nat.le_of_ble_eq_true rfl), (Nat.le_of_ble_eq_true rfl)⟩ dX1_markSlides_33 (fun H locs hM => ?_)
    refine lv_isub (pc := 36) hx hb dX1_markSlides_36 ?_
    refine lv_istore (pc := 37) (lv' := [(6, .int (x1 - v6)), (0, .ref (pB P + x0)), (1, .int x1), (2, .int x2), (3, .int x3), (4, .int x4), (5, .int x5)]) hx hb dX1_markSlides_37 hl (by decide) rfl (fun ls hl => ?_)
    refine lv_iload (pc := 39) hx hb dX1_markSlides_39 (lv_at hl 5 rfl) ?_
    refine lv_iload (pc := 41) hx hb dX1_markSlides_41 (lv_at hl 0 rfl) ?_
    refine lv_iload_n (pc := 43) hx hb dX1_markSlides_43 rfl (lv_at hl 3 rfl) ?_
    refine lv_isub (pc := 44) hx hb dX1_markSlides_44 ?_
    obtain ⟨v10, e9, h⟩ := ob h
    refine bz_callS1 (pc := 45) (As := [.int x4, .int ((x1 - v6) - x2)]) (rest := []) X hM hl.1 k_RX1_84 (ctJ9_max_7cf53 l e9) rfl rfl ⟨(Nat.le_of_ble_eq_true rfl), (Nat.le_of_ble_eq_true rfl)⟩ (Nat.le_of_ble_eq_true rfl) ⟨(Nat.le_of_ble_eq_true rfl), (Nat.le_of_ble_eq_true rfl)⟩ dX1_markSlides_45 (fun H locs hM => ?_)
    refine lv_istore (pc := 48) (lv' := [(7, .int v10), (6, .int (x1 - v6)), (0, .ref (pB P + x0)), (1, .int x1), (2, .int x2), (3, .int x3), (4, .int x4), (5, .int x5)]) hx hb dX1_markSlides_48 hl (by decide) rfl (fun ls hl => ?_)
    refine lv_iload_n (pc := 50) hx hb dX1_markSlides_50 rfl (lv_at hl 5 rfl) ?_
    refine lv_iload (pc := 51) hx hb dX1_markSlides_51 (lv_at hl 1 rfl) ?_
    refine lv_iload_n (pc := 53) hx hb dX1_markSlides_53 rfl (lv_at hl 4 rfl) ?_
    refine lv_iadd (pc := 54) hx hb dX1_markSlides_54 ?_
    obtain ⟨v12, e11, h⟩ := ob h
    refine bz_callS1 (pc := 55) (As := [.int x3, .int ((x1 - v6) + x2)]) (rest := []) X hM hl.1 k_RX1_109 (ctJ9_min_7cf53 l e11) rfl rfl ⟨(Nat.le_of_ble_eq_true rfl), (Nat.le_of_ble_eq_true rfl)⟩ (Nat.le_of_ble_eq_true rfl) ⟨(Nat.le_of_ble_eq_true rfl), (Nat.le_of_ble_eq_true rfl)⟩ dX1_markSlides_55 (fun H locs hM => ?_)
    refine lv_istore (pc := 58) (lv' := [(8, .int v12), (7, .int v10), (6, .int (x1 - v6)), (0, .ref (pB P + x0)), (1, .int x1), (2, .int x2), (3, .int x3), (4, .int x4), (5, .int x5)]) hx hb dX1_markSlides_58 hl (by decide) rfl (fun ls hl => ?_)
    refine lv_iload (pc := 60) hx hb dX1_markSlides_60 (lv_at hl 1 rfl) ?_
    refine lv_iload (pc := 62) hx hb dX1_markSlides_62 (lv_at hl 0 rfl) ?_
    refine lv_icmp_gt (pc := 64) (tgt := 99) hx hb dX1_markSlides_64 (by decide) (fun hc => ?_) (fun hc => ?_)
    · have h := if_t hc h
      refine lv_iinc (pc := 99) (v := (x5 + (-1 : Int32))) (lv' := [(5, .int (x5 + (-1 : Int32))), (8, .int v12), (7, .int v10), (6, .int (x1 - v6)), (0, .ref (pB P + x0)), (1, .int x1), (2, .int x2), (3, .int x3), (4, .int x4)]) hx hb dX1_markSlides_99 hl (k := 8) rfl rfl (by decide) rfl (fun ls hl => ?_)
      refine lv_goto (pc := 102) (tgt := 18) hx hb dX1_markSlides_102 (by decide) ?_
      exact hK18 _ _ _ _ _ _ _ h H locs ls hM (lv_sub hl [4, 5, 6, 7, 8, 0] rfl)
    · have h := if_f hc h
      refine lv_aload_n (pc := 67) hx hb dX1_markSlides_67 rfl (lv_at hl 3 rfl) ?_
      obtain ⟨q13, e14, h⟩ := ob h
      refine bz_getQ (pc := 68) X hM fl_RX1_30 e14 dX1_markSlides_68 ?_
      refine lv_iload (pc := 71) hx hb dX1_markSlides_71 (lv_at hl 1 rfl) ?_
      refine lv_iload_n (pc := 73) hx hb dX1_markSlides_73 rfl (lv_at hl 6 rfl) ?_
      refine lv_iadd (pc := 74) hx hb dX1_markSlides_74 ?_
      refine lv_iconst (pc := 75) (v := (1 : Int32)) hx hb dX1_markSlides_75 (by decide) ?_
      obtain ⟨M16, e15, h⟩ := ob h
      obtain ⟨fs17, hb18⟩ := (rX3_raise e15)
      refine bz_callV0 (pc := 76) (As := [.int (v10 + x3), .int (1 : Int32)]) (rest := []) X hM hl.1 k_RX1_106 (ctX3_raise l e15) rfl hb18 rfl rfl ⟨(Nat.le_of_ble_eq_true rfl), (Nat.le_of_ble_eq_true rfl)⟩ (Nat.le_of_ble_eq_true rfl) ⟨(Nat.le_of_ble_eq_true rfl), (Nat.le_of_ble_eq_true rfl)⟩ dX1_markSlides_76 (fun H locs hM => ?_)
      refine lv_aload_n (pc := 79) hx hb dX1_markSlides_79 rfl (lv_at hl 3 rfl) ?_
      obtain ⟨q19, e20, h⟩ := ob h
      refine bz_getQ (pc := 80) X hM fl_RX1_30 e20 dX1_markSlides_80 ?_
      refine lv_iload (pc := 83) hx hb dX1_markSlides_83 (lv_at hl 0 rfl) ?_
      refine lv_iconst (pc := 85) (v := (1 : Int32)) hx hb dX1_markSlides_85 (by decide) ?_
      refine lv_iadd (pc := 86) hx hb dX1_markSlides_86 ?_
      refine lv_iload_n (pc := 87) hx hb dX1_markSlides_87 rfl (lv_at hl 6 rfl) ?_
      refine lv_iadd (pc := 88) hx hb dX1_markSlides_88 ?_
      refine lv_iconst (pc := 89) (v := (-1 : Int32)) hx hb dX1_markSlides_89 (by decide) ?_
      obtain ⟨M22, e21, h⟩ := ob h
      obtain ⟨fs23, hb24⟩ := (rX3_raise e21)
      refine bz_callV0 (pc := 90) (As := [.int ((v12 + (1 : Int32)) + x3), .int (-1 : Int32)]) (rest := []) X hM hl.1 k_RX1_106 (ctX3_raise l e21) rfl hb24 rfl rfl ⟨(Nat.le_of_ble_eq_true rfl), (Nat.le_of_ble_eq_true rfl)⟩ (Nat.le_of_ble_eq_true rfl) ⟨(Nat.le_of_ble_eq_true rfl), (Nat.le_of_ble_eq_true rfl)⟩ dX1_markSlides_90 (fun H locs hM => ?_)
      refine lv_iload (pc := 93) hx hb dX1_markSlides_93 (lv_at hl 0 rfl) ?_
      refine lv_iconst (pc := 95) (v := (1 : Int32)) hx hb dX1_markSlides_95 (by decide) ?_
      refine lv_iadd (pc := 96) hx hb dX1_markSlides_96 ?_
      refine lv_istore (pc := 97) (lv' := [(4, .int (v12 + (1 : Int32))), (8, .int v12), (7, .int v10), (6, .int (x1 - v6)), (0, .ref (pB P + x0)), (1, .int x1), (2, .int x2), (3, .int x3), (5, .int x5)]) hx hb dX1_markSlides_97 hl (by decide) rfl (fun ls hl => ?_)
      refine lv_iinc (pc := 99) (v := (x5 + (-1 : Int32))) (lv' := [(5, .int (x5 + (-1 : Int32))), (4, .int (v12 + (1 : Int32))), (8, .int v12), (7, .int v10), (6, .int (x1 - v6)), (0, .ref (pB P + x0)), (1, .int x1), (2, .int x2), (3, .int x3)]) hx hb dX1_markSlides_99 hl (k := 8) rfl rfl (by decide) rfl (fun ls hl => ?_)
      refine lv_goto (pc := 102) (tgt := 18) hx hb dX1_markSlides_102 (by decide) ?_
      exact hK18 _ _ _ _ _ _ _ h H locs ls hM (lv_sub hl [5, 6, 7, 8, 1, 0] rfl)
set_option maxHeartbeats 4000000 in
set_option maxRecDepth 100000 in
theorem wLX1_markSlides_18 {p : Program} {l : Launch} {e : Env} {s : State} {m : MethodId} {args : Array Value} {below : List Frame} {meth : Method} {c : Code} {P : PT} {N : Nat}  {M9 : Mm} (hX : Cy p s m args c meth cX1_markSlides 9 RX1 "markSlides" none P)   : ∀ (n : Nat) (M : Mm) (x0 : Nat) (x1 : Int32) (x2 : Int32) (x3 : Int32) (x4 : Int32) (x5 : Int32) , LX1_markSlides_18 N n M x0 x1 x2 x3 x4 x5 = some M9 → Wq p l e s m args below meth c 2 0 none M9 9 P 0 18 [(0, .ref (pB P + x0)), (1, .int x1), (2, .int x2), (3, .int x3), (4, .int x4), (5, .int x5)] [] M := by
  intro n
  induction n with
  | zero => intro M x0 x1 x2 x3 x4 x5 h; cases h
  | succ n ih => intro M x0 x1 x2 x3 x4 x5 h; exact wBX1_markSlides_18 hX ih M x0 x1 x2 x3 x4 x5 h
set_option maxHeartbeats 4000000 in
set_option maxRecDepth 100000 in
theorem wX1_markSlides {p : Program} {l : Launch} {e : Env} {s : State} {m : MethodId} {args : Array Value} {below : List Frame} {meth : Method} {c : Code} {P : PT} {N : Nat}  {M9 : Mm} (hX : Cy p s m args c meth cX1_markSlides 9 RX1 "markSlides" none P)  (M : Mm) (a0 : Nat) (a1 : Int32) (a2 : Int32) (a3 : Int32) (h : fX1_markSlides N M a0 a1 a2 a3 = some M9) : Wq p l e s m args below meth c 2 0 none M9 9 P 0 0 [(0, .ref (pB P + a0)), (1, .int a1), (2, .int a2), (3, .int a3)] [] M := by
  unfold fX1_markSlides at h
  obtain ⟨_, _, h⟩ := ob h
  have hX0 := hX
  obtain ⟨X, hr, hlk, hnm⟩ := hX0
  have hx := X.1.1
  have hb := X.1.2.1
  intro H locs ls hM hl
  refine lv_iload_n (pc := 0) hx hb dX1_markSlides_0 rfl (lv_at hl 3 rfl) ?_
  refine lv_ineg (pc := 1) hx hb dX1_markSlides_1 ?_
  refine lv_istore (pc := 2) (lv' := [(4, .int (-a3)), (0, .ref (pB P + a0)), (1, .int a1), (2, .int a2), (3, .int a3)]) hx hb dX1_markSlides_2 hl (by decide) rfl (fun ls hl => ?_)
  refine lv_aload_n (pc := 4) hx hb dX1_markSlides_4 rfl (lv_at hl 1 rfl) ?_
  obtain ⟨q1, e2, h⟩ := ob h
  refine bz_getQ (pc := 5) X hM fl_RX1_18 e2 dX1_markSlides_5 ?_
  obtain ⟨q3, e4, h⟩ := ob h
  refine bz_getQ (pc := 8) X hM fl_RX1_40 e4 dX1_markSlides_8 ?_
  obtain ⟨v6, e5, h⟩ := ob h
  obtain ⟨fs7, hb8⟩ := (rX3_size e5)
  refine bz_callV1 (pc := 11) (As := []) (rest := []) X hM hl.1 k_RX1_46 (ctX3_size l e5) rfl hb8 rfl rfl ⟨(Nat.le_of_ble_eq_true rfl), (Nat.le_of_ble_eq_true rfl)⟩ (Nat.le_of_ble_eq_true rfl) ⟨(Nat.le_of_ble_eq_true rfl), (Nat.le_of_ble_eq_true rfl)⟩ dX1_markSlides_11 (fun H locs hM => ?_)
  refine lv_iconst (pc := 14) (v := (1 : Int32)) hx hb dX1_markSlides_14 (by decide) ?_
  refine lv_isub (pc := 15) hx hb dX1_markSlides_15 ?_
  refine lv_istore (pc := 16) (lv' := [(5, .int (v6 - (1 : Int32))), (4, .int (-a3)), (0, .ref (pB P + a0)), (1, .int a1), (2, .int a2), (3, .int a3)]) hx hb dX1_markSlides_16 hl (by decide) rfl (fun ls hl => ?_)
  exact wLX1_markSlides_18 hX _ _ _ _ _ _ _ _ h H locs ls hM (lv_sub hl [2, 3, 4, 5, 1, 0] rfl)
theorem rX1_markSlides {N : Nat} {M : Mm} {a0 : Nat} {a1 : Int32} {a2 : Int32} {a3 : Int32} {r9 : Mm} (h : fX1_markSlides N M a0 a1 a2 a3 = some r9) : ∃ fs, M[a0]? = some (.inr (1, fs)) := by
  unfold fX1_markSlides at h
  obtain ⟨_, e1, _⟩ := ob h
  exact gC_spec e1
theorem ctX1_markSlides (l : Launch) {P : PT} {N : Nat} {M : Mm} {a0 : Nat} {a1 : Int32} {a2 : Int32} {a3 : Int32} {M9 : Mm} (h : fX1_markSlides N M a0 a1 a2 a3 = some M9) : Ct l yX1_markSlides cX1_markSlides 9 none 2 0 P [.ref (pB P + a0), .int a1, .int a2, .int a3] M none M9 :=
  Ct.mk (by decide +kernel) (Nat.le_of_ble_eq_true rfl) (fun p e s m args below meth c hX => wX1_markSlides hX M a0 a1 a2 a3 h)
set_option maxHeartbeats 4000000 in
set_option maxRecDepth 100000 in
theorem wBX1_meetBySlides_54 {p : Program} {l : Launch} {e : Env} {s : State} {m : MethodId} {args : Array Value} {below : List Frame} {meth : Method} {c : Code} {P : PT} {N : Nat} {K54 : Mm → Nat → Int32 → Option (Mm)}  {M9 : Mm} (hX : Cy p s m args c meth cX1_meetBySlides 4 RX1 "meetBySlides" none P)  (hK54 : ∀ (M : Mm) (x0 : Nat) (x3 : Int32), K54 M x0 x3 = some M9 → Wq p l e s m args below meth c 3 0 none M9 4 P 0 54 [(0, .ref (pB P + x0)), (3, .int x3)] [] M) (M : Mm) (x0 : Nat) (x3 : Int32)  (h : BX1_meetBySlides_54 N K54 M x0 x3 = some M9) : Wq p l e s m args below meth c 3 0 none M9 4 P 0 54 [(0, .ref (pB P + x0)), (3, .int x3)] [] M := by
  unfold BX1_meetBySlides_54 at h
  have hX0 := hX
  obtain ⟨X, hr, hlk, hnm⟩ := hX0
  have hx := X.1.1
  have hb := X.1.2.1
  intro H locs ls hM hl
  refine lv_iload_n (pc := 54) hx hb dX1_meetBySlides_54 rfl (lv_at hl 1 rfl) ?_
  refine lv_aload_n (pc := 55) hx hb dX1_meetBySlides_55 rfl (lv_at hl 0 rfl) ?_
  obtain ⟨q1, e2, h⟩ := ob h
  refine bz_getQ (pc := 56) X hM fl_RX1_30 e2 dX1_meetBySlides_56 ?_
  obtain ⟨v4, e3, h⟩ := ob h
  obtain ⟨fs5, hb6⟩ := (rX3_size e3)
  refine bz_callV1 (pc := 59) (As := []) (rest := [.int x3]) X hM hl.1 k_RX1_46 (ctX3_size l e3) rfl hb6 rfl rfl ⟨(Nat.le_of_ble_eq_true rfl), (Nat.le_of_ble_eq_true rfl)⟩ (Nat.le_of_ble_eq_true rfl) ⟨(Nat.le_of_ble_eq_true rfl), (Nat.le_of_ble_eq_true rfl)⟩ dX1_meetBySlides_59 (fun H locs hM => ?_)
  refine lv_icmp_ge (pc := 62) (tgt := 89) hx hb dX1_meetBySlides_62 (by decide) (fun hc => ?_) (fun hc => ?_)
  · have h := if_t hc h
    obtain rfl := so1 h
    exact bz_vret (pc := 89) X hM hr hlk dX1_meetBySlides_89 (Nat.le_of_ble_eq_true rfl) (Nat.le_of_ble_eq_true rfl)
  · have h := if_f hc h
    refine lv_aload_n (pc := 65) hx hb dX1_meetBySlides_65 rfl (lv_at hl 0 rfl) ?_
    obtain ⟨q7, e8, h⟩ := ob h
    refine bz_getQ (pc := 66) X hM fl_RX1_30 e8 dX1_meetBySlides_66 ?_
    refine lv_iload_n (pc := 69) hx hb dX1_meetBySlides_69 rfl (lv_at hl 1 rfl) ?_
    refine lv_aload_n (pc := 70) hx hb dX1_meetBySlides_70 rfl (lv_at hl 0 rfl) ?_
    obtain ⟨q9, e10, h⟩ := ob h
    refine bz_getQ (pc := 71) X hM fl_RX1_30 e10 dX1_meetBySlides_71 ?_
    refine lv_iload_n (pc := 74) hx hb dX1_meetBySlides_74 rfl (lv_at hl 1 rfl) ?_
    refine lv_iconst (pc := 75) (v := (1 : Int32)) hx hb dX1_meetBySlides_75 (by decide) ?_
    refine lv_isub (pc := 76) hx hb dX1_meetBySlides_76 ?_
    obtain ⟨v12, e11, h⟩ := ob h
    obtain ⟨fs13, hb14⟩ := (rX3_at e11)
    refine bz_callV1 (pc := 77) (As := [.int (x3 - (1 : Int32))]) (rest := [.int x3, .ref (pB P + q7)]) X hM hl.1 k_RX1_50 (ctX3_at l e11) rfl hb14 rfl rfl ⟨(Nat.le_of_ble_eq_true rfl), (Nat.le_of_ble_eq_true rfl)⟩ (Nat.le_of_ble_eq_true rfl) ⟨(Nat.le_of_ble_eq_true rfl), (Nat.le_of_ble_eq_true rfl)⟩ dX1_meetBySlides_77 (fun H locs hM => ?_)
    obtain ⟨M16, e15, h⟩ := ob h
    obtain ⟨fs17, hb18⟩ := (rX3_raise e15)
    refine bz_callV0 (pc := 80) (As := [.int x3, .int v12]) (rest := []) X hM hl.1 k_RX1_106 (ctX3_raise l e15) rfl hb18 rfl rfl ⟨(Nat.le_of_ble_eq_true rfl), (Nat.le_of_ble_eq_true rfl)⟩ (Nat.le_of_ble_eq_true rfl) ⟨(Nat.le_of_ble_eq_true rfl), (Nat.le_of_ble_eq_true rfl)⟩ dX1_meetBySlides_80 (fun H locs hM => ?_)
    refine lv_iinc (pc := 83) (v := (x3 + (1 : Int32))) (lv' := [(3, .int (x3 + (1 : Int32))), (0, .ref (pB P + x0))]) hx hb dX1_meetBySlides_83 hl (k := 1) rfl rfl (by decide) rfl (fun ls hl => ?_)
    refine lv_goto (pc := 86) (tgt := 54) hx hb dX1_meetBySlides_86 (by decide) ?_
    exact hK54 _ _ _ h H locs ls hM (lv_sub hl [1, 0] rfl)
set_option maxHeartbeats 4000000 in
set_option maxRecDepth 100000 in
theorem wLX1_meetBySlides_54 {p : Program} {l : Launch} {e : Env} {s : State} {m : MethodId} {args : Array Value} {below : List Frame} {meth : Method} {c : Code} {P : PT} {N : Nat}  {M9 : Mm} (hX : Cy p s m args c meth cX1_meetBySlides 4 RX1 "meetBySlides" none P)   : ∀ (n : Nat) (M : Mm) (x0 : Nat) (x3 : Int32) , LX1_meetBySlides_54 N n M x0 x3 = some M9 → Wq p l e s m args below meth c 3 0 none M9 4 P 0 54 [(0, .ref (pB P + x0)), (3, .int x3)] [] M := by
  intro n
  induction n with
  | zero => intro M x0 x3 h; cases h
  | succ n ih => intro M x0 x3 h; exact wBX1_meetBySlides_54 hX ih M x0 x3 h
set_option maxHeartbeats 4000000 in
set_option maxRecDepth 100000 in
theorem wBX1_meetBySlides_15 {p : Program} {l : Launch} {e : Env} {s : State} {m : MethodId} {args : Array Value} {below : List Frame} {meth : Method} {c : Code} {P : PT} {N : Nat} {K15 : Mm → Nat → Int32 → Int32 → Int32 → Option (Mm)}  {M9 : Mm} (hX : Cy p s m args c meth cX1_meetBySlides 4 RX1 "meetBySlides" none P)  (hK15 : ∀ (M : Mm) (x0 : Nat) (x1 : Int32) (x2 : Int32) (x3 : Int32), K15 M x0 x1 x2 x3 = some M9 → Wq p l e s m args below meth c 3 0 none M9 4 P 0 15 [(0, .ref (pB P + x0)), (1, .int x1), (2, .int x2), (3, .int x3)] [] M) (M : Mm) (x0 : Nat) (x1 : Int32) (x2 : Int32) (x3 : Int32)  (h : BX1_meetBySlides_15 N K15 M x0 x1 x2 x3 = some M9) : Wq p l e s m args below meth c 3 0 none M9 4 P 0 15 [(0, .ref (pB P + x0)), (1, .int x1), (2, .int x2), (3, .int x3)] [] M := by
  unfold BX1_meetBySlides_15 at h
  have hX0 := hX
  obtain ⟨X, hr, hlk, hnm⟩ := hX0
  have hx := X.1.1
  have hb := X.1.2.1
  intro H locs ls hM hl
  refine lv_iload_n (pc := 15) hx hb dX1_meetBySlides_15 rfl (lv_at hl 3 rfl) ?_
  refine lv_aload_n (pc := 16) hx hb dX1_meetBySlides_16 rfl (lv_at hl 0 rfl) ?_
  obtain ⟨q1, e2, h⟩ := ob h
  refine bz_getQ (pc := 17) X hM fl_RX1_12 e2 dX1_meetBySlides_17 ?_
  obtain ⟨q3, e4, h⟩ := ob h
  refine bz_getQ (pc := 20) X hM fl_RX1_40 e4 dX1_meetBySlides_20 ?_
  obtain ⟨v6, e5, h⟩ := ob h
  obtain ⟨fs7, hb8⟩ := (rX3_size e5)
  refine bz_callV1 (pc := 23) (As := []) (rest := [.int x3]) X hM hl.1 k_RX1_46 (ctX3_size l e5) rfl hb8 rfl rfl ⟨(Nat.le_of_ble_eq_true rfl), (Nat.le_of_ble_eq_true rfl)⟩ (Nat.le_of_ble_eq_true rfl) ⟨(Nat.le_of_ble_eq_true rfl), (Nat.le_of_ble_eq_true rfl)⟩ dX1_meetBySlides_23 (fun H locs hM => ?_)
  refine lv_icmp_ge (pc := 26) (tgt := 52) hx hb dX1_meetBySlides_26 (by decide) (fun hc => ?_) (fun hc => ?_)
  · have h := if_t hc h
    refine lv_iconst (pc := 52) (v := (1 : Int32)) hx hb dX1_meetBySlides_52 (by decide) ?_
    refine lv_istore_n (pc := 53) (lv' := [(3, .int (1 : Int32)), (0, .ref (pB P + x0)), (1, .int x1), (2, .int x2)]) hx hb dX1_meetBySlides_53 rfl hl (by decide) rfl (fun ls hl => ?_)
    exact wLX1_meetBySlides_54 hX _ _ _ _ h H locs ls hM (lv_sub hl [1, 0] rfl)
  · have h := if_f hc h
    refine lv_aload_n (pc := 29) hx hb dX1_meetBySlides_29 rfl (lv_at hl 0 rfl) ?_
    refine lv_aload_n (pc := 30) hx hb dX1_meetBySlides_30 rfl (lv_at hl 0 rfl) ?_
    obtain ⟨q9, e10, h⟩ := ob h
    refine bz_getQ (pc := 31) X hM fl_RX1_12 e10 dX1_meetBySlides_31 ?_
    obtain ⟨q11, e12, h⟩ := ob h
    refine bz_getQ (pc := 34) X hM fl_RX1_40 e12 dX1_meetBySlides_34 ?_
    refine lv_iload_n (pc := 37) hx hb dX1_meetBySlides_37 rfl (lv_at hl 3 rfl) ?_
    obtain ⟨v14, e13, h⟩ := ob h
    obtain ⟨fs15, hb16⟩ := (rX3_at e13)
    refine bz_callV1 (pc := 38) (As := [.int x3]) (rest := [.ref (pB P + x0)]) X hM hl.1 k_RX1_50 (ctX3_at l e13) rfl hb16 rfl rfl ⟨(Nat.le_of_ble_eq_true rfl), (Nat.le_of_ble_eq_true rfl)⟩ (Nat.le_of_ble_eq_true rfl) ⟨(Nat.le_of_ble_eq_true rfl), (Nat.le_of_ble_eq_true rfl)⟩ dX1_meetBySlides_38 (fun H locs hM => ?_)
    refine lv_iload_n (pc := 41) hx hb dX1_meetBySlides_41 rfl (lv_at hl 1 rfl) ?_
    refine lv_iload_n (pc := 42) hx hb dX1_meetBySlides_42 rfl (lv_at hl 2 rfl) ?_
    obtain ⟨M18, e17, h⟩ := ob h
    obtain ⟨fs19, hb20⟩ := (rX1_markSlides e17)
    refine bz_callV0 (pc := 43) (As := [.int v14, .int x1, .int x2]) (rest := []) X hM hl.1 k_RX1_102 (ctX1_markSlides l e17) rfl hb20 rfl rfl ⟨(Nat.le_of_ble_eq_true rfl), (Nat.le_of_ble_eq_true rfl)⟩ (Nat.le_of_ble_eq_true rfl) ⟨(Nat.le_of_ble_eq_true rfl), (Nat.le_of_ble_eq_true rfl)⟩ dX1_meetBySlides_43 (fun H locs hM => ?_)
    refine lv_iinc (pc := 46) (v := (x3 + (1 : Int32))) (lv' := [(3, .int (x3 + (1 : Int32))), (0, .ref (pB P + x0)), (1, .int x1), (2, .int x2)]) hx hb dX1_meetBySlides_46 hl (k := 3) rfl rfl (by decide) rfl (fun ls hl => ?_)
    refine lv_goto (pc := 49) (tgt := 15) hx hb dX1_meetBySlides_49 (by decide) ?_
    exact hK15 _ _ _ _ _ h H locs ls hM (lv_sub hl [1, 2, 3, 0] rfl)
set_option maxHeartbeats 4000000 in
set_option maxRecDepth 100000 in
theorem wLX1_meetBySlides_15 {p : Program} {l : Launch} {e : Env} {s : State} {m : MethodId} {args : Array Value} {below : List Frame} {meth : Method} {c : Code} {P : PT} {N : Nat}  {M9 : Mm} (hX : Cy p s m args c meth cX1_meetBySlides 4 RX1 "meetBySlides" none P)   : ∀ (n : Nat) (M : Mm) (x0 : Nat) (x1 : Int32) (x2 : Int32) (x3 : Int32) , LX1_meetBySlides_15 N n M x0 x1 x2 x3 = some M9 → Wq p l e s m args below meth c 3 0 none M9 4 P 0 15 [(0, .ref (pB P + x0)), (1, .int x1), (2, .int x2), (3, .int x3)] [] M := by
  intro n
  induction n with
  | zero => intro M x0 x1 x2 x3 h; cases h
  | succ n ih => intro M x0 x1 x2 x3 h; exact wBX1_meetBySlides_15 hX ih M x0 x1 x2 x3 h
set_option maxHeartbeats 4000000 in
set_option maxRecDepth 100000 in
theorem wX1_meetBySlides {p : Program} {l : Launch} {e : Env} {s : State} {m : MethodId} {args : Array Value} {below : List Frame} {meth : Method} {c : Code} {P : PT} {N : Nat}  {M9 : Mm} (hX : Cy p s m args c meth cX1_meetBySlides 4 RX1 "meetBySlides" none P)  (M : Mm) (a0 : Nat) (a1 : Int32) (a2 : Int32) (h : fX1_meetBySlides N M a0 a1 a2 = some M9) : Wq p l e s m args below meth c 3 0 none M9 4 P 0 0 [(0, .ref (pB P + a0)), (1, .int a1), (2, .int a2)] [] M := by
  unfold fX1_meetBySlides at h
  obtain ⟨_, _, h⟩ := ob h
  have hX0 := hX
  obtain ⟨X, hr, hlk, hnm⟩ := hX0
  have hx := X.1.1
  have hb := X.1.2.1
  intro H locs ls hM hl
  refine lv_aload_n (pc := 0) hx hb dX1_meetBySlides_0 rfl (lv_at hl 0 rfl) ?_
  obtain ⟨q1, e2, h⟩ := ob h
  refine bz_getQ (pc := 1) X hM fl_RX1_30 e2 dX1_meetBySlides_1 ?_
  refine lv_iconst (pc := 4) (v := (2 : Int32)) hx hb dX1_meetBySlides_4 (by decide) ?_
  refine lv_iload_n (pc := 5) hx hb dX1_meetBySlides_5 rfl (lv_at hl 2 rfl) ?_
  refine lv_imul (pc := 6) hx hb dX1_meetBySlides_6 ?_
  refine lv_iconst (pc := 7) (v := (2 : Int32)) hx hb dX1_meetBySlides_7 (by decide) ?_
  refine lv_iadd (pc := 8) hx hb dX1_meetBySlides_8 ?_
  refine lv_iconst (pc := 9) (v := (0 : Int32)) hx hb dX1_meetBySlides_9 (by decide) ?_
  obtain ⟨M4, e3, h⟩ := ob h
  obtain ⟨fs5, hb6⟩ := (rX3_fill e3)
  refine bz_callV0 (pc := 10) (As := [.int (((2 : Int32) * a2) + (2 : Int32)), .int (0 : Int32)]) (rest := []) X hM hl.1 k_RX1_98 (ctX3_fill l e3) rfl hb6 rfl rfl ⟨(Nat.le_of_ble_eq_true rfl), (Nat.le_of_ble_eq_true rfl)⟩ (Nat.le_of_ble_eq_true rfl) ⟨(Nat.le_of_ble_eq_true rfl), (Nat.le_of_ble_eq_true rfl)⟩ dX1_meetBySlides_10 (fun H locs hM => ?_)
  refine lv_iconst (pc := 13) (v := (0 : Int32)) hx hb dX1_meetBySlides_13 (by decide) ?_
  refine lv_istore_n (pc := 14) (lv' := [(3, .int (0 : Int32)), (0, .ref (pB P + a0)), (1, .int a1), (2, .int a2)]) hx hb dX1_meetBySlides_14 rfl hl (by decide) rfl (fun ls hl => ?_)
  exact wLX1_meetBySlides_15 hX _ _ _ _ _ _ h H locs ls hM (lv_sub hl [1, 2, 3, 0] rfl)
theorem rX1_meetBySlides {N : Nat} {M : Mm} {a0 : Nat} {a1 : Int32} {a2 : Int32} {r9 : Mm} (h : fX1_meetBySlides N M a0 a1 a2 = some r9) : ∃ fs, M[a0]? = some (.inr (1, fs)) := by
  unfold fX1_meetBySlides at h
  obtain ⟨_, e1, _⟩ := ob h
  exact gC_spec e1
theorem ctX1_meetBySlides (l : Launch) {P : PT} {N : Nat} {M : Mm} {a0 : Nat} {a1 : Int32} {a2 : Int32} {M9 : Mm} (h : fX1_meetBySlides N M a0 a1 a2 = some M9) : Ct l yX1_meetBySlides cX1_meetBySlides 4 none 3 0 P [.ref (pB P + a0), .int a1, .int a2] M none M9 :=
  Ct.mk (by decide +kernel) (Nat.le_of_ble_eq_true rfl) (fun p e s m args below meth c hX => wX1_meetBySlides hX M a0 a1 a2 h)
set_option maxHeartbeats 4000000 in
set_option maxRecDepth 100000 in
theorem wX1_metBySlide {p : Program} {l : Launch} {e : Env} {s : State} {m : MethodId} {args : Array Value} {below : List Frame} {meth : Method} {c : Code} {P : PT}  {r9 : Int32} (hX : Cy p s m args c meth cX1_metBySlide 3 RX1 "metBySlide" (some .int) P)  (M : Mm) (a0 : Nat) (a1 : Int32) (a2 : Int32) (h : fX1_metBySlide M a0 a1 a2 = some r9) : Wq p l e s m args below meth c 1 0 (some (.int r9)) M 3 P 0 0 [(0, .ref (pB P + a0)), (1, .int a1), (2, .int a2)] [] M := by
  unfold fX1_metBySlide at h
  obtain ⟨_, _, h⟩ := ob h
  have hX0 := hX
  obtain ⟨X, hr, hlk, hnm⟩ := hX0
  have hx := X.1.1
  have hb := X.1.2.1
  intro H locs ls hM hl
  refine lv_aload_n (pc := 0) hx hb dX1_metBySlide_0 rfl (lv_at hl 0 rfl) ?_
  obtain ⟨q1, e2, h⟩ := ob h
  refine bz_getQ (pc := 1) X hM fl_RX1_30 e2 dX1_metBySlide_1 ?_
  refine lv_iload_n (pc := 4) hx hb dX1_metBySlide_4 rfl (lv_at hl 1 rfl) ?_
  refine lv_iload_n (pc := 5) hx hb dX1_metBySlide_5 rfl (lv_at hl 2 rfl) ?_
  refine lv_iadd (pc := 6) hx hb dX1_metBySlide_6 ?_
  obtain ⟨v4, e3, h⟩ := ob h
  obtain ⟨fs5, hb6⟩ := (rX3_at e3)
  refine bz_callV1 (pc := 7) (As := [.int (a1 + a2)]) (rest := []) X hM hl.1 k_RX1_50 (ctX3_at l e3) rfl hb6 rfl rfl ⟨(Nat.le_of_ble_eq_true rfl), (Nat.le_of_ble_eq_true rfl)⟩ (Nat.le_of_ble_eq_true rfl) ⟨(Nat.le_of_ble_eq_true rfl), (Nat.le_of_ble_eq_true rfl)⟩ dX1_metBySlide_7 (fun H locs hM => ?_)
  obtain rfl := so1 h
  exact bz_iret (pc := 10) X hM hr hlk dX1_metBySlide_10 (Nat.le_of_ble_eq_true rfl) (Nat.le_of_ble_eq_true rfl)
theorem rX1_metBySlide {M : Mm} {a0 : Nat} {a1 : Int32} {a2 : Int32} {r9 : Int32} (h : fX1_metBySlide M a0 a1 a2 = some r9) : ∃ fs, M[a0]? = some (.inr (1, fs)) := by
  unfold fX1_metBySlide at h
  obtain ⟨_, e1, _⟩ := ob h
  exact gC_spec e1
theorem ctX1_metBySlide (l : Launch) {P : PT} {M : Mm} {a0 : Nat} {a1 : Int32} {a2 : Int32} {r9 : Int32} (h : fX1_metBySlide M a0 a1 a2 = some r9) : Ct l yX1_metBySlide cX1_metBySlide 3 (some .int) 1 0 P [.ref (pB P + a0), .int a1, .int a2] M (some (.int r9)) M :=
  Ct.mk (by decide +kernel) (Nat.le_of_ble_eq_true rfl) (fun p e s m args below meth c hX => wX1_metBySlide hX M a0 a1 a2 h)
set_option maxHeartbeats 4000000 in
set_option maxRecDepth 100000 in
theorem wjX10_hours_127 {p : Program} {l : Launch} {e : Env} {s : State} {m : MethodId} {args : Array Value} {below : List Frame} {meth : Method} {c : Code} {P : PT} {N : Nat} {K89 : Mm → Nat → Int32 → Int32 → Int32 → Int32 → Option (Int32 × Mm)}  {r9 : Int32} {M9 : Mm} (hX : Cy p s m args c meth cX10_hours 7 RX10 "hours" (some .int) P)  (hK89 : ∀ (M : Mm) (x0 : Nat) (x3 : Int32) (x4 : Int32) (x5 : Int32) (x6 : Int32), K89 M x0 x3 x4 x5 x6 = some (r9, M9) → Wq p l e s m args below meth c 6 0 (some (.int r9)) M9 7 P 0 89 [(0, .ref (pB P + x0)), (3, .int x3), (4, .int x4), (5, .int x5), (6, .int x6)] [] M) (M : Mm) (x0 : Nat) (x3 : Int32) (x4 : Int32) (x6 : Int32) (s0 : Int32) (h : jX10_hours_127 N K89 M x0 x3 x4 x6 s0 = some (r9, M9)) : Wq p l e s m args below meth c 6 0 (some (.int r9)) M9 7 P 0 127 [(0, .ref (pB P + x0)), (3, .int x3), (4, .int x4), (6, .int x6)] [.int s0] M := by
  unfold jX10_hours_127 at h
  have hX0 := hX
  obtain ⟨X, hr, hlk, hnm⟩ := hX0
  have hx := X.1.1
  have hb := X.1.2.1
  intro H locs ls hM hl
  refine lv_istore (pc := 127) (lv' := [(5, .int s0), (0, .ref (pB P + x0)), (3, .int x3), (4, .int x4), (6, .int x6)]) hx hb dX10_hours_127 hl (by decide) rfl (fun ls hl => ?_)
  refine lv_aload_n (pc := 129) hx hb dX10_hours_129 rfl (lv_at hl 1 rfl) ?_
  obtain ⟨q1, e2, h⟩ := ob h
  refine bz_getQ (pc := 130) X hM fl_RX10_42 e2 dX10_hours_130 ?_
  refine lv_iload (pc := 133) hx hb dX10_hours_133 (lv_at hl 4 rfl) ?_
  refine lv_iload_n (pc := 135) hx hb dX10_hours_135 rfl (lv_at hl 2 rfl) ?_
  obtain ⟨v4, e3, h⟩ := ob h
  obtain ⟨fs5, hb6⟩ := (rX1_metBySlide e3)
  refine bz_callV1 (pc := 136) (As := [.int x6, .int x3]) (rest := []) X hM hl.1 k_RX10_306 (ctX1_metBySlide l e3) rfl hb6 rfl rfl ⟨(Nat.le_of_ble_eq_true rfl), (Nat.le_of_ble_eq_true rfl)⟩ (Nat.le_of_ble_eq_true rfl) ⟨(Nat.le_of_ble_eq_true rfl), (Nat.le_of_ble_eq_true rfl)⟩ dX10_hours_136 (fun H locs hM => ?_)
  refine lv_aload_n (pc := 139) hx hb dX10_hours_139 rfl (lv_at hl 1 rfl) ?_
  obtain ⟨q7, e8, h⟩ := ob h
  refine bz_getQ (pc := 140) X hM fl_RX10_42 e8 dX10_hours_140 ?_
  refine lv_iload (pc := 143) hx hb dX10_hours_143 (lv_at hl 0 rfl) ?_
  refine lv_iload_n (pc := 145) hx hb dX10_hours_145 rfl (lv_at hl 2 rfl) ?_
  obtain ⟨v10, e9, h⟩ := ob h
  obtain ⟨fs11, hb12⟩ := (rX1_metBySlide e9)
  refine bz_callV1 (pc := 146) (As := [.int s0, .int x3]) (rest := [.int v4]) X hM hl.1 k_RX10_306 (ctX1_metBySlide l e9) rfl hb12 rfl rfl ⟨(Nat.le_of_ble_eq_true rfl), (Nat.le_of_ble_eq_true rfl)⟩ (Nat.le_of_ble_eq_true rfl) ⟨(Nat.le_of_ble_eq_true rfl), (Nat.le_of_ble_eq_true rfl)⟩ dX10_hours_146 (fun H locs hM => ?_)
  refine lv_icmp_le (pc := 149) (tgt := 157) hx hb dX10_hours_149 (by decide) (fun hc => ?_) (fun hc => ?_)
  · have h := if_t hc h
    refine lv_iload (pc := 157) hx hb dX10_hours_157 (lv_at hl 0 rfl) ?_
    refine lv_istore (pc := 159) (lv' := [(5, .int s0), (0, .ref (pB P + x0)), (3, .int x3), (4, .int x4), (6, .int x6)]) hx hb dX10_hours_159 hl (by decide) rfl (fun ls hl => ?_)
    refine lv_iinc (pc := 161) (v := (x6 + (1 : Int32))) (lv' := [(6, .int (x6 + (1 : Int32))), (5, .int s0), (0, .ref (pB P + x0)), (3, .int x3), (4, .int x4)]) hx hb dX10_hours_161 hl (k := 4) rfl rfl (by decide) rfl (fun ls hl => ?_)
    refine lv_goto (pc := 164) (tgt := 89) hx hb dX10_hours_164 (by decide) ?_
    exact hK89 _ _ _ _ _ _ h H locs ls hM (lv_sub hl [2, 3, 4, 1, 0] rfl)
  · have h := if_f hc h
    refine lv_iload (pc := 152) hx hb dX10_hours_152 (lv_at hl 4 rfl) ?_
    refine lv_goto (pc := 154) (tgt := 159) hx hb dX10_hours_154 (by decide) ?_
    refine lv_istore (pc := 159) (lv' := [(5, .int x6), (0, .ref (pB P + x0)), (3, .int x3), (4, .int x4), (6, .int x6)]) hx hb dX10_hours_159 hl (by decide) rfl (fun ls hl => ?_)
    refine lv_iinc (pc := 161) (v := (x6 + (1 : Int32))) (lv' := [(6, .int (x6 + (1 : Int32))), (5, .int x6), (0, .ref (pB P + x0)), (3, .int x3), (4, .int x4)]) hx hb dX10_hours_161 hl (k := 4) rfl rfl (by decide) rfl (fun ls hl => ?_)
    refine lv_goto (pc := 164) (tgt := 89) hx hb dX10_hours_164 (by decide) ?_
    exact hK89 _ _ _ _ _ _ h H locs ls hM (lv_sub hl [2, 3, 4, 1, 0] rfl)
set_option maxHeartbeats 4000000 in
set_option maxRecDepth 100000 in
theorem wBX10_hours_89 {p : Program} {l : Launch} {e : Env} {s : State} {m : MethodId} {args : Array Value} {below : List Frame} {meth : Method} {c : Code} {P : PT} {N : Nat} {K89 : Mm → Nat → Int32 → Int32 → Int32 → Int32 → Option (Int32 × Mm)}  {r9 : Int32} {M9 : Mm} (hX : Cy p s m args c meth cX10_hours 7 RX10 "hours" (some .int) P)  (hK89 : ∀ (M : Mm) (x0 : Nat) (x3 : Int32) (x4 : Int32) (x5 : Int32) (x6 : Int32), K89 M x0 x3 x4 x5 x6 = some (r9, M9) → Wq p l e s m args below meth c 6 0 (some (.int r9)) M9 7 P 0 89 [(0, .ref (pB P + x0)), (3, .int x3), (4, .int x4), (5, .int x5), (6, .int x6)] [] M) (M : Mm) (x0 : Nat) (x3 : Int32) (x4 : Int32) (x5 : Int32) (x6 : Int32)  (h : BX10_hours_89 N K89 M x0 x3 x4 x5 x6 = some (r9, M9)) : Wq p l e s m args below meth c 6 0 (some (.int r9)) M9 7 P 0 89 [(0, .ref (pB P + x0)), (3, .int x3), (4, .int x4), (5, .int x5), (6, .int x6)] [] M := by
  unfold BX10_hours_89 at h
  have hX0 := hX
  obtain ⟨X, hr, hlk, hnm⟩ := hX0
  have hx := X.1.1
  have hb := X.1.2.1
  intro H locs ls hM hl
  refine lv_iload (pc := 89) hx hb dX10_hours_89 (lv_at hl 4 rfl) ?_
  refine lv_iload_n (pc := 91) hx hb dX10_hours_91 rfl (lv_at hl 1 rfl) ?_
  refine lv_icmp_gt (pc := 92) (tgt := 167) hx hb dX10_hours_92 (by decide) (fun hc => ?_) (fun hc => ?_)
  · have h := if_t hc h
    refine lv_iload (pc := 167) hx hb dX10_hours_167 (lv_at hl 2 rfl) ?_
    refine lv_if_ne (pc := 169) (tgt := 177) hx hb dX10_hours_169 (by decide) (fun hc => ?_) (fun hc => ?_)
    · have h := if_f hc h
      refine lv_aload_n (pc := 177) hx hb dX10_hours_177 rfl (lv_at hl 0 rfl) ?_
      obtain ⟨q1, e2, h⟩ := ob h
      refine bz_getQ (pc := 178) X hM fl_RX10_42 e2 dX10_hours_178 ?_
      refine lv_iload (pc := 181) hx hb dX10_hours_181 (lv_at hl 3 rfl) ?_
      refine lv_iload_n (pc := 183) hx hb dX10_hours_183 rfl (lv_at hl 1 rfl) ?_
      obtain ⟨v4, e3, h⟩ := ob h
      obtain ⟨fs5, hb6⟩ := (rX1_metBySlide e3)
      refine bz_callV1 (pc := 184) (As := [.int x5, .int x3]) (rest := []) X hM hl.1 k_RX10_306 (ctX1_metBySlide l e3) rfl hb6 rfl rfl ⟨(Nat.le_of_ble_eq_true rfl), (Nat.le_of_ble_eq_true rfl)⟩ (Nat.le_of_ble_eq_true rfl) ⟨(Nat.le_of_ble_eq_true rfl), (Nat.le_of_ble_eq_true rfl)⟩ dX10_hours_184 (fun H locs hM => ?_)
      obtain ⟨rfl, rfl⟩ := so2 h
      exact bz_iret (pc := 187) X hM hr hlk dX10_hours_187 (Nat.le_of_ble_eq_true rfl) (Nat.le_of_ble_eq_true rfl)
    · have h := if_t hc h
      refine lv_iload (pc := 172) hx hb dX10_hours_172 (lv_at hl 3 rfl) ?_
      refine lv_goto (pc := 174) (tgt := 187) hx hb dX10_hours_174 (by decide) ?_
      obtain ⟨rfl, rfl⟩ := so2 h
      exact bz_iret (pc := 187) X hM hr hlk dX10_hours_187 (Nat.le_of_ble_eq_true rfl) (Nat.le_of_ble_eq_true rfl)
  · have h := if_f hc h
    refine lv_aload_n (pc := 95) hx hb dX10_hours_95 rfl (lv_at hl 0 rfl) ?_
    obtain ⟨q7, e8, h⟩ := ob h
    refine bz_getQ (pc := 96) X hM fl_RX10_42 e8 dX10_hours_96 ?_
    refine lv_iload (pc := 99) hx hb dX10_hours_99 (lv_at hl 4 rfl) ?_
    refine lv_ineg (pc := 101) hx hb dX10_hours_101 ?_
    refine lv_iload_n (pc := 102) hx hb dX10_hours_102 rfl (lv_at hl 1 rfl) ?_
    obtain ⟨v10, e9, h⟩ := ob h
    obtain ⟨fs11, hb12⟩ := (rX1_metBySlide e9)
    refine bz_callV1 (pc := 103) (As := [.int (-x6), .int x3]) (rest := []) X hM hl.1 k_RX10_306 (ctX1_metBySlide l e9) rfl hb12 rfl rfl ⟨(Nat.le_of_ble_eq_true rfl), (Nat.le_of_ble_eq_true rfl)⟩ (Nat.le_of_ble_eq_true rfl) ⟨(Nat.le_of_ble_eq_true rfl), (Nat.le_of_ble_eq_true rfl)⟩ dX10_hours_103 (fun H locs hM => ?_)
    refine lv_aload_n (pc := 106) hx hb dX10_hours_106 rfl (lv_at hl 0 rfl) ?_
    obtain ⟨q13, e14, h⟩ := ob h
    refine bz_getQ (pc := 107) X hM fl_RX10_42 e14 dX10_hours_107 ?_
    refine lv_iload (pc := 110) hx hb dX10_hours_110 (lv_at hl 3 rfl) ?_
    refine lv_iload_n (pc := 112) hx hb dX10_hours_112 rfl (lv_at hl 1 rfl) ?_
    obtain ⟨v16, e15, h⟩ := ob h
    obtain ⟨fs17, hb18⟩ := (rX1_metBySlide e15)
    refine bz_callV1 (pc := 113) (As := [.int x5, .int x3]) (rest := [.int v10]) X hM hl.1 k_RX10_306 (ctX1_metBySlide l e15) rfl hb18 rfl rfl ⟨(Nat.le_of_ble_eq_true rfl), (Nat.le_of_ble_eq_true rfl)⟩ (Nat.le_of_ble_eq_true rfl) ⟨(Nat.le_of_ble_eq_true rfl), (Nat.le_of_ble_eq_true rfl)⟩ dX10_hours_113 (fun H locs hM => ?_)
    refine lv_icmp_le (pc := 116) (tgt := 125) hx hb dX10_hours_116 (by decide) (fun hc => ?_) (fun hc => ?_)
    · have h := if_t hc h
      refine lv_iload (pc := 125) hx hb dX10_hours_125 (lv_at hl 3 rfl) ?_
      exact wjX10_hours_127 hX hK89 _ _ _ _ _ _ h H locs ls hM (lv_sub hl [0, 1, 2, 4] rfl)
    · have h := if_f hc h
      refine lv_iload (pc := 119) hx hb dX10_hours_119 (lv_at hl 4 rfl) ?_
      refine lv_ineg (pc := 121) hx hb dX10_hours_121 ?_
      refine lv_goto (pc := 122) (tgt := 127) hx hb dX10_hours_122 (by decide) ?_
      exact wjX10_hours_127 hX hK89 _ _ _ _ _ _ h H locs ls hM (lv_sub hl [0, 1, 2, 4] rfl)
set_option maxHeartbeats 4000000 in
set_option maxRecDepth 100000 in
theorem wLX10_hours_89 {p : Program} {l : Launch} {e : Env} {s : State} {m : MethodId} {args : Array Value} {below : List Frame} {meth : Method} {c : Code} {P : PT} {N : Nat}  {r9 : Int32} {M9 : Mm} (hX : Cy p s m args c meth cX10_hours 7 RX10 "hours" (some .int) P)   : ∀ (n : Nat) (M : Mm) (x0 : Nat) (x3 : Int32) (x4 : Int32) (x5 : Int32) (x6 : Int32) , LX10_hours_89 N n M x0 x3 x4 x5 x6 = some (r9, M9) → Wq p l e s m args below meth c 6 0 (some (.int r9)) M9 7 P 0 89 [(0, .ref (pB P + x0)), (3, .int x3), (4, .int x4), (5, .int x5), (6, .int x6)] [] M := by
  intro n
  induction n with
  | zero => intro M x0 x3 x4 x5 x6 h; cases h
  | succ n ih => intro M x0 x3 x4 x5 x6 h; exact wBX10_hours_89 hX ih M x0 x3 x4 x5 x6 h
set_option maxHeartbeats 4000000 in
set_option maxRecDepth 100000 in
theorem wjX10_hours_40 {p : Program} {l : Launch} {e : Env} {s : State} {m : MethodId} {args : Array Value} {below : List Frame} {meth : Method} {c : Code} {P : PT} {N : Nat}  {r9 : Int32} {M9 : Mm} (hX : Cy p s m args c meth cX10_hours 7 RX10 "hours" (some .int) P)   (M : Mm) (x0 : Nat)  (h : jX10_hours_40 N M x0 = some (r9, M9)) : Wq p l e s m args below meth c 6 0 (some (.int r9)) M9 7 P 0 40 [(0, .ref (pB P + x0))] [] M := by
  unfold jX10_hours_40 at h
  have hX0 := hX
  obtain ⟨X, hr, hlk, hnm⟩ := hX0
  have hx := X.1.1
  have hb := X.1.2.1
  intro H locs ls hM hl
  refine lv_aload_n (pc := 40) hx hb dX10_hours_40 rfl (lv_at hl 0 rfl) ?_
  refine lv_iconst (pc := 41) (v := (1 : Int32)) hx hb dX10_hours_41 (by decide) ?_
  obtain ⟨v2, M3, e1, h⟩ := ob2 h
  obtain ⟨fs4, hb5⟩ := (rX10_error e1)
  refine bz_callV1 (pc := 42) (As := [.int (1 : Int32)]) (rest := []) X hM hl.1 k_RX10_78 (ctX10_error l e1) rfl hb5 rfl rfl ⟨(Nat.le_of_ble_eq_true rfl), (Nat.le_of_ble_eq_true rfl)⟩ (Nat.le_of_ble_eq_true rfl) ⟨(Nat.le_of_ble_eq_true rfl), (Nat.le_of_ble_eq_true rfl)⟩ dX10_hours_42 (fun H locs hM => ?_)
  obtain ⟨rfl, rfl⟩ := so2 h
  exact bz_iret (pc := 45) X hM hr hlk dX10_hours_45 (Nat.le_of_ble_eq_true rfl) (Nat.le_of_ble_eq_true rfl)
set_option maxHeartbeats 4000000 in
set_option maxRecDepth 100000 in
theorem wX10_hours {p : Program} {l : Launch} {e : Env} {s : State} {m : MethodId} {args : Array Value} {below : List Frame} {meth : Method} {c : Code} {P : PT} {N : Nat}  {r9 : Int32} {M9 : Mm} (hX : Cy p s m args c meth cX10_hours 7 RX10 "hours" (some .int) P)  (M : Mm) (a0 : Nat) (a1 : Int32) (a2 : Int32) (a3 : Int32) (a4 : Int32) (h : fX10_hours N M a0 a1 a2 a3 a4 = some (r9, M9)) : Wq p l e s m args below meth c 6 0 (some (.int r9)) M9 7 P 0 0 [(0, .ref (pB P + a0)), (1, .int a1), (2, .int a2), (3, .int a3), (4, .int a4)] [] M := by
  unfold fX10_hours at h
  obtain ⟨_, _, h⟩ := ob h
  have hX0 := hX
  obtain ⟨X, hr, hlk, hnm⟩ := hX0
  have hx := X.1.1
  have hb := X.1.2.1
  intro H locs ls hM hl
  refine lv_aload_n (pc := 0) hx hb dX10_hours_0 rfl (lv_at hl 0 rfl) ?_
  refine lv_iload_n (pc := 1) hx hb dX10_hours_1 rfl (lv_at hl 1 rfl) ?_
  obtain ⟨v2, e1, h⟩ := ob h
  obtain ⟨fs3, hb4⟩ := (rX10_isPair e1)
  refine bz_callV1 (pc := 2) (As := [.int a1]) (rest := []) X hM hl.1 k_RX10_211 (ctX10_isPair l e1) rfl hb4 rfl rfl ⟨(Nat.le_of_ble_eq_true rfl), (Nat.le_of_ble_eq_true rfl)⟩ (Nat.le_of_ble_eq_true rfl) ⟨(Nat.le_of_ble_eq_true rfl), (Nat.le_of_ble_eq_true rfl)⟩ dX10_hours_2 (fun H locs hM => ?_)
  refine lv_if_eq (pc := 5) (tgt := 40) hx hb dX10_hours_5 (by decide) (fun hc => ?_) (fun hc => ?_)
  · have h := if_t hc h
    exact wjX10_hours_40 hX _ _ h H locs ls hM (lv_sub hl [0] rfl)
  · have h := if_f hc h
    refine lv_iload_n (pc := 8) hx hb dX10_hours_8 rfl (lv_at hl 2 rfl) ?_
    refine lv_iconst (pc := 9) (v := (0 : Int32)) hx hb dX10_hours_9 (by decide) ?_
    refine lv_ldcw (pc := 10) (v := (50999 : Int32)) hx hb X.1.2.2.2.1 (X.1.2.2.2.2 _ g_970) dX10_hours_10 ?_
    obtain ⟨v6, e5, h⟩ := ob h
    refine bz_callS1 (pc := 13) (As := [.int a2, .int (0 : Int32), .int (50999 : Int32)]) (rest := []) X hM hl.1 k_RX10_74 (ctX10_within l e5) rfl rfl ⟨(Nat.le_of_ble_eq_true rfl), (Nat.le_of_ble_eq_true rfl)⟩ (Nat.le_of_ble_eq_true rfl) ⟨(Nat.le_of_ble_eq_true rfl), (Nat.le_of_ble_eq_true rfl)⟩ dX10_hours_13 (fun H locs hM => ?_)
    refine lv_if_eq (pc := 16) (tgt := 40) hx hb dX10_hours_16 (by decide) (fun hc => ?_) (fun hc => ?_)
    · have h := if_t hc h
      exact wjX10_hours_40 hX _ _ h H locs ls hM (lv_sub hl [0] rfl)
    · have h := if_f hc h
      refine lv_iload_n (pc := 19) hx hb dX10_hours_19 rfl (lv_at hl 3 rfl) ?_
      refine lv_iconst (pc := 20) (v := (0 : Int32)) hx hb dX10_hours_20 (by decide) ?_
      refine lv_sipush (pc := 21) (v := (400 : Int32)) hx hb dX10_hours_21 (by decide) ?_
      obtain ⟨v8, e7, h⟩ := ob h
      refine bz_callS1 (pc := 24) (As := [.int a3, .int (0 : Int32), .int (400 : Int32)]) (rest := []) X hM hl.1 k_RX10_74 (ctX10_within l e7) rfl rfl ⟨(Nat.le_of_ble_eq_true rfl), (Nat.le_of_ble_eq_true rfl)⟩ (Nat.le_of_ble_eq_true rfl) ⟨(Nat.le_of_ble_eq_true rfl), (Nat.le_of_ble_eq_true rfl)⟩ dX10_hours_24 (fun H locs hM => ?_)
      refine lv_if_eq (pc := 27) (tgt := 40) hx hb dX10_hours_27 (by decide) (fun hc => ?_) (fun hc => ?_)
      · have h := if_t hc h
        exact wjX10_hours_40 hX _ _ h H locs ls hM (lv_sub hl [0] rfl)
      · have h := if_f hc h
        refine lv_iload (pc := 30) hx hb dX10_hours_30 (lv_at hl 4 rfl) ?_
        refine lv_iconst (pc := 32) (v := (0 : Int32)) hx hb dX10_hours_32 (by decide) ?_
        refine lv_iconst (pc := 33) (v := (1 : Int32)) hx hb dX10_hours_33 (by decide) ?_
        obtain ⟨v10, e9, h⟩ := ob h
        refine bz_callS1 (pc := 34) (As := [.int a4, .int (0 : Int32), .int (1 : Int32)]) (rest := []) X hM hl.1 k_RX10_74 (ctX10_within l e9) rfl rfl ⟨(Nat.le_of_ble_eq_true rfl), (Nat.le_of_ble_eq_true rfl)⟩ (Nat.le_of_ble_eq_true rfl) ⟨(Nat.le_of_ble_eq_true rfl), (Nat.le_of_ble_eq_true rfl)⟩ dX10_hours_34 (fun H locs hM => ?_)
        refine lv_if_ne (pc := 37) (tgt := 46) hx hb dX10_hours_37 (by decide) (fun hc => ?_) (fun hc => ?_)
        · have h := if_f hc h
          refine lv_aload_n (pc := 46) hx hb dX10_hours_46 rfl (lv_at hl 0 rfl) ?_
          obtain ⟨q11, e12, h⟩ := ob h
          refine bz_getQ (pc := 47) X hM fl_RX10_42 e12 dX10_hours_47 ?_
          refine lv_aload_n (pc := 50) hx hb dX10_hours_50 rfl (lv_at hl 0 rfl) ?_
          obtain ⟨q13, e14, h⟩ := ob h
          refine bz_getQ (pc := 51) X hM fl_RX10_10 e14 dX10_hours_51 ?_
          refine lv_iload_n (pc := 54) hx hb dX10_hours_54 rfl (lv_at hl 1 rfl) ?_
          obtain ⟨M16, e15, h⟩ := ob h
          obtain ⟨fs17, hb18⟩ := (rX1_hear e15)
          refine bz_callV0 (pc := 55) (As := [.ref (pB P + q13), .int a1]) (rest := []) X hM hl.1 k_RX10_217 (ctX1_hear l e15) rfl hb18 rfl rfl ⟨(Nat.le_of_ble_eq_true rfl), (Nat.le_of_ble_eq_true rfl)⟩ (Nat.le_of_ble_eq_true rfl) ⟨(Nat.le_of_ble_eq_true rfl), (Nat.le_of_ble_eq_true rfl)⟩ dX10_hours_55 (fun H locs hM => ?_)
          refine lv_aload_n (pc := 58) hx hb dX10_hours_58 rfl (lv_at hl 0 rfl) ?_
          obtain ⟨q19, e20, h⟩ := ob h
          refine bz_getQ (pc := 59) X hM fl_RX10_42 e20 dX10_hours_59 ?_
          refine lv_iload_n (pc := 62) hx hb dX10_hours_62 rfl (lv_at hl 2 rfl) ?_
          refine lv_sipush (pc := 63) (v := (1000 : Int32)) hx hb dX10_hours_63 (by decide) ?_
          refine bz_irem (pc := 66) hx hb dX10_hours_66 (by decide) ?_
          obtain ⟨M22, e21, h⟩ := ob h
          obtain ⟨fs23, hb24⟩ := (rX1_drawLine e21)
          refine bz_callV0 (pc := 67) (As := [.int (rmI a2 ((1000 : Int32)))]) (rest := []) X hM hl.1 k_RX10_218 (ctX1_drawLine l e21) rfl hb24 rfl rfl ⟨(Nat.le_of_ble_eq_true rfl), (Nat.le_of_ble_eq_true rfl)⟩ (Nat.le_of_ble_eq_true rfl) ⟨(Nat.le_of_ble_eq_true rfl), (Nat.le_of_ble_eq_true rfl)⟩ dX10_hours_67 (fun H locs hM => ?_)
          refine lv_aload_n (pc := 70) hx hb dX10_hours_70 rfl (lv_at hl 0 rfl) ?_
          obtain ⟨q25, e26, h⟩ := ob h
          refine bz_getQ (pc := 71) X hM fl_RX10_42 e26 dX10_hours_71 ?_
          refine lv_iload_n (pc := 74) hx hb dX10_hours_74 rfl (lv_at hl 2 rfl) ?_
          refine lv_sipush (pc := 75) (v := (1000 : Int32)) hx hb dX10_hours_75 (by decide) ?_
          refine lv_idiv (pc := 78) hx hb dX10_hours_78 (by decide) ?_
          refine lv_iload_n (pc := 79) hx hb dX10_hours_79 rfl (lv_at hl 3 rfl) ?_
          obtain ⟨M28, e27, h⟩ := ob h
          obtain ⟨fs29, hb30⟩ := (rX1_meetBySlides e27)
          refine bz_callV0 (pc := 80) (As := [.int (a2 / (1000 : Int32)), .int a3]) (rest := []) X hM hl.1 k_RX10_303 (ctX1_meetBySlides l e27) rfl hb30 rfl rfl ⟨(Nat.le_of_ble_eq_true rfl), (Nat.le_of_ble_eq_true rfl)⟩ (Nat.le_of_ble_eq_true rfl) ⟨(Nat.le_of_ble_eq_true rfl), (Nat.le_of_ble_eq_true rfl)⟩ dX10_hours_80 (fun H locs hM => ?_)
          refine lv_iconst (pc := 83) (v := (0 : Int32)) hx hb dX10_hours_83 (by decide) ?_
          refine lv_istore (pc := 84) (lv' := [(5, .int (0 : Int32)), (0, .ref (pB P + a0)), (1, .int a1), (2, .int a2), (3, .int a3), (4, .int a4)]) hx hb dX10_hours_84 hl (by decide) rfl (fun ls hl => ?_)
          refine lv_iconst (pc := 86) (v := (1 : Int32)) hx hb dX10_hours_86 (by decide) ?_
          refine lv_istore (pc := 87) (lv' := [(6, .int (1 : Int32)), (5, .int (0 : Int32)), (0, .ref (pB P + a0)), (1, .int a1), (2, .int a2), (3, .int a3), (4, .int a4)]) hx hb dX10_hours_87 hl (by decide) rfl (fun ls hl => ?_)
          exact wLX10_hours_89 hX _ _ _ _ _ _ _ h H locs ls hM (lv_sub hl [2, 5, 6, 1, 0] rfl)
        · have h := if_t hc h
          exact wjX10_hours_40 hX _ _ h H locs ls hM (lv_sub hl [0] rfl)
theorem rX10_hours {N : Nat} {M : Mm} {a0 : Nat} {a1 : Int32} {a2 : Int32} {a3 : Int32} {a4 : Int32} {r9 : Int32 × Mm} (h : fX10_hours N M a0 a1 a2 a3 a4 = some r9) : ∃ fs, M[a0]? = some (.inr (10, fs)) := by
  unfold fX10_hours at h
  obtain ⟨_, e1, _⟩ := ob h
  exact gC_spec e1
theorem ctX10_hours (l : Launch) {P : PT} {N : Nat} {M : Mm} {a0 : Nat} {a1 : Int32} {a2 : Int32} {a3 : Int32} {a4 : Int32} {r9 : Int32} {M9 : Mm} (h : fX10_hours N M a0 a1 a2 a3 a4 = some (r9, M9)) : Ct l yX10_hours cX10_hours 7 (some .int) 6 0 P [.ref (pB P + a0), .int a1, .int a2, .int a3, .int a4] M (some (.int r9)) M9 :=
  Ct.mk (by decide +kernel) (Nat.le_of_ble_eq_true rfl) (fun p e s m args below meth c hX => wX10_hours hX M a0 a1 a2 a3 a4 h)
set_option maxHeartbeats 4000000 in
set_option maxRecDepth 100000 in
theorem wjX11_hours_132 {p : Program} {l : Launch} {e : Env} {s : State} {m : MethodId} {args : Array Value} {below : List Frame} {meth : Method} {c : Code} {P : PT} {N : Nat} {K77 : Mm → Nat → Int32 → Int32 → Int32 → Int32 → Int32 → Int32 → Int32 → Option (Int32 × Mm)} {K88 : Mm → Nat → Int32 → Int32 → Int32 → Int32 → Int32 → Int32 → Int32 → Int32 → Option (Int32 × Mm)}  {r9 : Int32} {M9 : Mm} (hX : Cy p s m args c meth cX11_hours 10 RX11 "hours" (some .int) P)  (hK77 : ∀ (M : Mm) (x0 : Nat) (x1 : Int32) (x2 : Int32) (x3 : Int32) (x4 : Int32) (x5 : Int32) (x6 : Int32) (x7 : Int32), K77 M x0 x1 x2 x3 x4 x5 x6 x7 = some (r9, M9) → Wq p l e s m args below meth c 4 0 (some (.int r9)) M9 10 P 0 77 [(0, .ref (pB P + x0)), (1, .int x1), (2, .int x2), (3, .int x3), (4, .int x4), (5, .int x5), (6, .int x6), (7, .int x7)] [] M) (hK88 : ∀ (M : Mm) (x0 : Nat) (x1 : Int32) (x2 : Int32) (x3 : Int32) (x4 : Int32) (x5 : Int32) (x6 : Int32) (x7 : Int32) (x8 : Int32), K88 M x0 x1 x2 x3 x4 x5 x6 x7 x8 = some (r9, M9) → Wq p l e s m args below meth c 4 0 (some (.int r9)) M9 10 P 0 88 [(0, .ref (pB P + x0)), (1, .int x1), (2, .int x2), (3, .int x3), (4, .int x4), (5, .int x5), (6, .int x6), (7, .int x7), (8, .int x8)] [] M) (M : Mm) (x0 : Nat) (x1 : Int32) (x2 : Int32) (x3 : Int32) (x4 : Int32) (x5 : Int32) (x6 : Int32) (x7 : Int32) (x8 : Int32)  (h : jX11_hours_132 N K77 K88 M x0 x1 x2 x3 x4 x5 x6 x7 x8 = some (r9, M9)) : Wq p l e s m args below meth c 4 0 (some (.int r9)) M9 10 P 0 132 [(0, .ref (pB P + x0)), (1, .int x1), (2, .int x2), (3, .int x3), (4, .int x4), (5, .int x5), (6, .int x6), (7, .int x7), (8, .int x8)] [] M := by
  unfold jX11_hours_132 at h
  have hX0 := hX
  obtain ⟨X, hr, hlk, hnm⟩ := hX0
  have hx := X.1.1
  have hb := X.1.2.1
  intro H locs ls hM hl
  refine lv_iload (pc := 132) hx hb dX11_hours_132 (lv_at hl 8 rfl) ?_
  refine lv_iconst (pc := 134) (v := (2 : Int32)) hx hb dX11_hours_134 (by decide) ?_
  refine lv_iload (pc := 135) hx hb dX11_hours_135 (lv_at hl 7 rfl) ?_
  refine lv_imul (pc := 137) hx hb dX11_hours_137 ?_
  refine lv_iadd (pc := 138) hx hb dX11_hours_138 ?_
  refine lv_istore (pc := 139) (lv' := [(8, .int (x8 + ((2 : Int32) * x7))), (0, .ref (pB P + x0)), (1, .int x1), (2, .int x2), (3, .int x3), (4, .int x4), (5, .int x5), (6, .int x6), (7, .int x7)]) hx hb dX11_hours_139 hl (by decide) rfl (fun ls hl => ?_)
  refine lv_goto (pc := 141) (tgt := 88) hx hb dX11_hours_141 (by decide) ?_
  exact hK88 _ _ _ _ _ _ _ _ _ _ h H locs ls hM (lv_sub hl [1, 2, 3, 4, 5, 6, 7, 8, 0] rfl)
set_option maxHeartbeats 4000000 in
set_option maxRecDepth 100000 in
theorem wBX11_hours_88 {p : Program} {l : Launch} {e : Env} {s : State} {m : MethodId} {args : Array Value} {below : List Frame} {meth : Method} {c : Code} {P : PT} {N : Nat} {K77 : Mm → Nat → Int32 → Int32 → Int32 → Int32 → Int32 → Int32 → Int32 → Option (Int32 × Mm)} {K88 : Mm → Nat → Int32 → Int32 → Int32 → Int32 → Int32 → Int32 → Int32 → Int32 → Option (Int32 × Mm)}  {r9 : Int32} {M9 : Mm} (hX : Cy p s m args c meth cX11_hours 10 RX11 "hours" (some .int) P)  (hK77 : ∀ (M : Mm) (x0 : Nat) (x1 : Int32) (x2 : Int32) (x3 : Int32) (x4 : Int32) (x5 : Int32) (x6 : Int32) (x7 : Int32), K77 M x0 x1 x2 x3 x4 x5 x6 x7 = some (r9, M9) → Wq p l e s m args below meth c 4 0 (some (.int r9)) M9 10 P 0 77 [(0, .ref (pB P + x0)), (1, .int x1), (2, .int x2), (3, .int x3), (4, .int x4), (5, .int x5), (6, .int x6), (7, .int x7)] [] M) (hK88 : ∀ (M : Mm) (x0 : Nat) (x1 : Int32) (x2 : Int32) (x3 : Int32) (x4 : Int32) (x5 : Int32) (x6 : Int32) (x7 : Int32) (x8 : Int32), K88 M x0 x1 x2 x3 x4 x5 x6 x7 x8 = some (r9, M9) → Wq p l e s m args below meth c 4 0 (some (.int r9)) M9 10 P 0 88 [(0, .ref (pB P + x0)), (1, .int x1), (2, .int x2), (3, .int x3), (4, .int x4), (5, .int x5), (6, .int x6), (7, .int x7), (8, .int x8)] [] M) (M : Mm) (x0 : Nat) (x1 : Int32) (x2 : Int32) (x3 : Int32) (x4 : Int32) (x5 : Int32) (x6 : Int32) (x7 : Int32) (x8 : Int32)  (h : BX11_hours_88 N K77 K88 M x0 x1 x2 x3 x4 x5 x6 x7 x8 = some (r9, M9)) : Wq p l e s m args below meth c 4 0 (some (.int r9)) M9 10 P 0 88 [(0, .ref (pB P + x0)), (1, .int x1), (2, .int x2), (3, .int x3), (4, .int x4), (5, .int x5), (6, .int x6), (7, .int x7), (8, .int x8)] [] M := by
  unfold BX11_hours_88 at h
  have hX0 := hX
  obtain ⟨X, hr, hlk, hnm⟩ := hX0
  have hx := X.1.1
  have hb := X.1.2.1
  intro H locs ls hM hl
  refine lv_iload (pc := 88) hx hb dX11_hours_88 (lv_at hl 8 rfl) ?_
  refine lv_iload (pc := 90) hx hb dX11_hours_90 (lv_at hl 7 rfl) ?_
  refine lv_icmp_gt (pc := 92) (tgt := 144) hx hb dX11_hours_92 (by decide) (fun hc => ?_) (fun hc => ?_)
  · have h := if_t hc h
    refine lv_iinc (pc := 144) (v := (x7 + (1 : Int32))) (lv' := [(7, .int (x7 + (1 : Int32))), (0, .ref (pB P + x0)), (1, .int x1), (2, .int x2), (3, .int x3), (4, .int x4), (5, .int x5), (6, .int x6), (8, .int x8)]) hx hb dX11_hours_144 hl (k := 7) rfl rfl (by decide) rfl (fun ls hl => ?_)
    refine lv_goto (pc := 147) (tgt := 77) hx hb dX11_hours_147 (by decide) ?_
    exact hK77 _ _ _ _ _ _ _ _ _ h H locs ls hM (lv_sub hl [1, 2, 3, 4, 5, 6, 7, 0] rfl)
  · have h := if_f hc h
    refine lv_aload_n (pc := 95) hx hb dX11_hours_95 rfl (lv_at hl 0 rfl) ?_
    refine lv_iload_n (pc := 96) hx hb dX11_hours_96 rfl (lv_at hl 1 rfl) ?_
    refine lv_iload_n (pc := 97) hx hb dX11_hours_97 rfl (lv_at hl 2 rfl) ?_
    refine lv_sipush (pc := 98) (v := (1000 : Int32)) hx hb dX11_hours_98 (by decide) ?_
    refine bz_irem (pc := 101) hx hb dX11_hours_101 (by decide) ?_
    refine lv_iload_n (pc := 102) hx hb dX11_hours_102 rfl (lv_at hl 2 rfl) ?_
    refine lv_sipush (pc := 103) (v := (1000 : Int32)) hx hb dX11_hours_103 (by decide) ?_
    refine lv_idiv (pc := 106) hx hb dX11_hours_106 (by decide) ?_
    refine lv_iload (pc := 107) hx hb dX11_hours_107 (lv_at hl 8 rfl) ?_
    obtain ⟨v2, e1, h⟩ := ob h
    obtain ⟨fs3, hb4⟩ := (rX11_met e1)
    refine bz_callV1 (pc := 109) (As := [.int x1, .int (rmI x2 ((1000 : Int32))), .int (x2 / (1000 : Int32)), .int x8]) (rest := []) X hM hl.1 k_RX11_139 (ctX11_met l e1) rfl hb4 rfl rfl ⟨(Nat.le_of_ble_eq_true rfl), (Nat.le_of_ble_eq_true rfl)⟩ (Nat.le_of_ble_eq_true rfl) ⟨(Nat.le_of_ble_eq_true rfl), (Nat.le_of_ble_eq_true rfl)⟩ dX11_hours_109 (fun H locs hM => ?_)
    refine lv_istore (pc := 112) (lv' := [(9, .int v2), (0, .ref (pB P + x0)), (1, .int x1), (2, .int x2), (3, .int x3), (4, .int x4), (5, .int x5), (6, .int x6), (7, .int x7), (8, .int x8)]) hx hb dX11_hours_112 hl (by decide) rfl (fun ls hl => ?_)
    refine lv_iload (pc := 114) hx hb dX11_hours_114 (lv_at hl 0 rfl) ?_
    refine lv_iload (pc := 116) hx hb dX11_hours_116 (lv_at hl 7 rfl) ?_
    refine lv_icmp_gt (pc := 118) (tgt := 124) hx hb dX11_hours_118 (by decide) (fun hc => ?_) (fun hc => ?_)
    · have h := if_t hc h
      refine lv_iload (pc := 124) hx hb dX11_hours_124 (lv_at hl 9 rfl) ?_
      refine lv_istore (pc := 126) (lv' := [(5, .int x8), (9, .int v2), (0, .ref (pB P + x0)), (1, .int x1), (2, .int x2), (3, .int x3), (4, .int x4), (6, .int x6), (7, .int x7), (8, .int x8)]) hx hb dX11_hours_126 hl (by decide) rfl (fun ls hl => ?_)
      refine lv_iload (pc := 128) hx hb dX11_hours_128 (lv_at hl 1 rfl) ?_
      refine lv_istore (pc := 130) (lv' := [(6, .int v2), (5, .int x8), (9, .int v2), (0, .ref (pB P + x0)), (1, .int x1), (2, .int x2), (3, .int x3), (4, .int x4), (7, .int x7), (8, .int x8)]) hx hb dX11_hours_130 hl (by decide) rfl (fun ls hl => ?_)
      exact wjX11_hours_132 hX hK77 hK88 _ _ _ _ _ _ _ _ _ _ h H locs ls hM (lv_sub hl [3, 4, 5, 6, 7, 1, 0, 8, 9] rfl)
    · have h := if_f hc h
      refine lv_goto (pc := 121) (tgt := 132) hx hb dX11_hours_121 (by decide) ?_
      exact wjX11_hours_132 hX hK77 hK88 _ _ _ _ _ _ _ _ _ _ h H locs ls hM (lv_sub hl [1, 2, 3, 4, 5, 6, 7, 8, 9] rfl)
set_option maxHeartbeats 4000000 in
set_option maxRecDepth 100000 in
theorem wLX11_hours_88 {p : Program} {l : Launch} {e : Env} {s : State} {m : MethodId} {args : Array Value} {below : List Frame} {meth : Method} {c : Code} {P : PT} {N : Nat} {K77 : Mm → Nat → Int32 → Int32 → Int32 → Int32 → Int32 → Int32 → Int32 → Option (Int32 × Mm)}  {r9 : Int32} {M9 : Mm} (hX : Cy p s m args c meth cX11_hours 10 RX11 "hours" (some .int) P)  (hK77 : ∀ (M : Mm) (x0 : Nat) (x1 : Int32) (x2 : Int32) (x3 : Int32) (x4 : Int32) (x5 : Int32) (x6 : Int32) (x7 : Int32), K77 M x0 x1 x2 x3 x4 x5 x6 x7 = some (r9, M9) → Wq p l e s m args below meth c 4 0 (some (.int r9)) M9 10 P 0 77 [(0, .ref (pB P + x0)), (1, .int x1), (2, .int x2), (3, .int x3), (4, .int x4), (5, .int x5), (6, .int x6), (7, .int x7)] [] M) : ∀ (n : Nat) (M : Mm) (x0 : Nat) (x1 : Int32) (x2 : Int32) (x3 : Int32) (x4 : Int32) (x5 : Int32) (x6 : Int32) (x7 : Int32) (x8 : Int32) , LX11_hours_88 N K77 n M x0 x1 x2 x3 x4 x5 x6 x7 x8 = some (r9, M9) → Wq p l e s m args below meth c 4 0 (some (.int r9)) M9 10 P 0 88 [(0, .ref (pB P + x0)), (1, .int x1), (2, .int x2), (3, .int x3), (4, .int x4), (5, .int x5), (6, .int x6), (7, .int x7), (8, .int x8)] [] M := by
  intro n
  induction n with
  | zero => intro M x0 x1 x2 x3 x4 x5 x6 x7 x8 h; cases h
  | succ n ih => intro M x0 x1 x2 x3 x4 x5 x6 x7 x8 h; exact wBX11_hours_88 hX hK77 ih M x0 x1 x2 x3 x4 x5 x6 x7 x8 h
set_option maxHeartbeats 4000000 in
set_option maxRecDepth 100000 in
theorem wBX11_hours_77 {p : Program} {l : Launch} {e : Env} {s : State} {m : MethodId} {args : Array Value} {below : List Frame} {meth : Method} {c : Code} {P : PT} {N : Nat} {K77 : Mm → Nat → Int32 → Int32 → Int32 → Int32 → Int32 → Int32 → Int32 → Option (Int32 × Mm)}  {r9 : Int32} {M9 : Mm} (hX : Cy p s m args c meth cX11_hours 10 RX11 "hours" (some .int) P)  (hK77 : ∀ (M : Mm) (x0 : Nat) (x1 : Int32) (x2 : Int32) (x3 : Int32) (x4 : Int32) (x5 : Int32) (x6 : Int32) (x7 : Int32), K77 M x0 x1 x2 x3 x4 x5 x6 x7 = some (r9, M9) → Wq p l e s m args below meth c 4 0 (some (.int r9)) M9 10 P 0 77 [(0, .ref (pB P + x0)), (1, .int x1), (2, .int x2), (3, .int x3), (4, .int x4), (5, .int x5), (6, .int x6), (7, .int x7)] [] M) (M : Mm) (x0 : Nat) (x1 : Int32) (x2 : Int32) (x3 : Int32) (x4 : Int32) (x5 : Int32) (x6 : Int32) (x7 : Int32)  (h : BX11_hours_77 N K77 M x0 x1 x2 x3 x4 x5 x6 x7 = some (r9, M9)) : Wq p l e s m args below meth c 4 0 (some (.int r9)) M9 10 P 0 77 [(0, .ref (pB P + x0)), (1, .int x1), (2, .int x2), (3, .int x3), (4, .int x4), (5, .int x5), (6, .int x6), (7, .int x7)] [] M := by
  unfold BX11_hours_77 at h
  have hX0 := hX
  obtain ⟨X, hr, hlk, hnm⟩ := hX0
  have hx := X.1.1
  have hb := X.1.2.1
  intro H locs ls hM hl
  refine lv_iload (pc := 77) hx hb dX11_hours_77 (lv_at hl 7 rfl) ?_
  refine lv_iload_n (pc := 79) hx hb dX11_hours_79 rfl (lv_at hl 3 rfl) ?_
  refine lv_icmp_gt (pc := 80) (tgt := 150) hx hb dX11_hours_80 (by decide) (fun hc => ?_) (fun hc => ?_)
  · have h := if_t hc h
    refine lv_iload (pc := 150) hx hb dX11_hours_150 (lv_at hl 4 rfl) ?_
    refine lv_if_ne (pc := 152) (tgt := 160) hx hb dX11_hours_152 (by decide) (fun hc => ?_) (fun hc => ?_)
    · have h := if_f hc h
      refine lv_iload (pc := 160) hx hb dX11_hours_160 (lv_at hl 6 rfl) ?_
      obtain ⟨rfl, rfl⟩ := so2 h
      exact bz_iret (pc := 162) X hM hr hlk dX11_hours_162 (Nat.le_of_ble_eq_true rfl) (Nat.le_of_ble_eq_true rfl)
    · have h := if_t hc h
      refine lv_iload (pc := 155) hx hb dX11_hours_155 (lv_at hl 5 rfl) ?_
      refine lv_goto (pc := 157) (tgt := 162) hx hb dX11_hours_157 (by decide) ?_
      obtain ⟨rfl, rfl⟩ := so2 h
      exact bz_iret (pc := 162) X hM hr hlk dX11_hours_162 (Nat.le_of_ble_eq_true rfl) (Nat.le_of_ble_eq_true rfl)
  · have h := if_f hc h
    refine lv_iload (pc := 83) hx hb dX11_hours_83 (lv_at hl 7 rfl) ?_
    refine lv_ineg (pc := 85) hx hb dX11_hours_85 ?_
    refine lv_istore (pc := 86) (lv' := [(8, .int (-x7)), (0, .ref (pB P + x0)), (1, .int x1), (2, .int x2), (3, .int x3), (4, .int x4), (5, .int x5), (6, .int x6), (7, .int x7)]) hx hb dX11_hours_86 hl (by decide) rfl (fun ls hl => ?_)
    exact wLX11_hours_88 hX hK77 _ _ _ _ _ _ _ _ _ _ _ h H locs ls hM (lv_sub hl [1, 2, 3, 4, 5, 6, 7, 8, 0] rfl)
set_option maxHeartbeats 4000000 in
set_option maxRecDepth 100000 in
theorem wLX11_hours_77 {p : Program} {l : Launch} {e : Env} {s : State} {m : MethodId} {args : Array Value} {below : List Frame} {meth : Method} {c : Code} {P : PT} {N : Nat}  {r9 : Int32} {M9 : Mm} (hX : Cy p s m args c meth cX11_hours 10 RX11 "hours" (some .int) P)   : ∀ (n : Nat) (M : Mm) (x0 : Nat) (x1 : Int32) (x2 : Int32) (x3 : Int32) (x4 : Int32) (x5 : Int32) (x6 : Int32) (x7 : Int32) , LX11_hours_77 N n M x0 x1 x2 x3 x4 x5 x6 x7 = some (r9, M9) → Wq p l e s m args below meth c 4 0 (some (.int r9)) M9 10 P 0 77 [(0, .ref (pB P + x0)), (1, .int x1), (2, .int x2), (3, .int x3), (4, .int x4), (5, .int x5), (6, .int x6), (7, .int x7)] [] M := by
  intro n
  induction n with
  | zero => intro M x0 x1 x2 x3 x4 x5 x6 x7 h; cases h
  | succ n ih => intro M x0 x1 x2 x3 x4 x5 x6 x7 h; exact wBX11_hours_77 hX ih M x0 x1 x2 x3 x4 x5 x6 x7 h
set_option maxHeartbeats 4000000 in
set_option maxRecDepth 100000 in
theorem wjX11_hours_43 {p : Program} {l : Launch} {e : Env} {s : State} {m : MethodId} {args : Array Value} {below : List Frame} {meth : Method} {c : Code} {P : PT} {N : Nat}  {r9 : Int32} {M9 : Mm} (hX : Cy p s m args c meth cX11_hours 10 RX11 "hours" (some .int) P)   (M : Mm) (x0 : Nat)  (h : jX11_hours_43 N M x0 = some (r9, M9)) : Wq p l e s m args below meth c 4 0 (some (.int r9)) M9 10 P 0 43 [(0, .ref (pB P + x0))] [] M := by
  unfold jX11_hours_43 at h
  have hX0 := hX
  obtain ⟨X, hr, hlk, hnm⟩ := hX0
  have hx := X.1.1
  have hb := X.1.2.1
  intro H locs ls hM hl
  refine lv_aload_n (pc := 43) hx hb dX11_hours_43 rfl (lv_at hl 0 rfl) ?_
  refine lv_iconst (pc := 44) (v := (1 : Int32)) hx hb dX11_hours_44 (by decide) ?_
  obtain ⟨v2, M3, e1, h⟩ := ob2 h
  obtain ⟨fs4, hb5⟩ := (rX11_error e1)
  refine bz_callV1 (pc := 45) (As := [.int (1 : Int32)]) (rest := []) X hM hl.1 k_RX11_73 (ctX11_error l e1) rfl hb5 rfl rfl ⟨(Nat.le_of_ble_eq_true rfl), (Nat.le_of_ble_eq_true rfl)⟩ (Nat.le_of_ble_eq_true rfl) ⟨(Nat.le_of_ble_eq_true rfl), (Nat.le_of_ble_eq_true rfl)⟩ dX11_hours_45 (fun H locs hM => ?_)
  obtain ⟨rfl, rfl⟩ := so2 h
  exact bz_iret (pc := 48) X hM hr hlk dX11_hours_48 (Nat.le_of_ble_eq_true rfl) (Nat.le_of_ble_eq_true rfl)
set_option maxHeartbeats 4000000 in
set_option maxRecDepth 100000 in
theorem wX11_hours {p : Program} {l : Launch} {e : Env} {s : State} {m : MethodId} {args : Array Value} {below : List Frame} {meth : Method} {c : Code} {P : PT} {N : Nat}  {r9 : Int32} {M9 : Mm} (hX : Cy p s m args c meth cX11_hours 10 RX11 "hours" (some .int) P)  (M : Mm) (a0 : Nat) (a1 : Int32) (a2 : Int32) (a3 : Int32) (a4 : Int32) (h : fX11_hours N M a0 a1 a2 a3 a4 = some (r9, M9)) : Wq p l e s m args below meth c 4 0 (some (.int r9)) M9 10 P 0 0 [(0, .ref (pB P + a0)), (1, .int a1), (2, .int a2), (3, .int a3), (4, .int a4)] [] M := by
  unfold fX11_hours at h
  obtain ⟨_, _, h⟩ := ob h
  have hX0 := hX
  obtain ⟨X, hr, hlk, hnm⟩ := hX0
  have hx := X.1.1
  have hb := X.1.2.1
  intro H locs ls hM hl
  refine lv_aload_n (pc := 0) hx hb dX11_hours_0 rfl (lv_at hl 0 rfl) ?_
  refine lv_iload_n (pc := 1) hx hb dX11_hours_1 rfl (lv_at hl 1 rfl) ?_
  obtain ⟨v2, e1, h⟩ := ob h
  obtain ⟨fs3, hb4⟩ := (rX11_isPair e1)
  refine bz_callV1 (pc := 2) (As := [.int a1]) (rest := []) X hM hl.1 k_RX11_131 (ctX11_isPair l e1) rfl hb4 rfl rfl ⟨(Nat.le_of_ble_eq_true rfl), (Nat.le_of_ble_eq_true rfl)⟩ (Nat.le_of_ble_eq_true rfl) ⟨(Nat.le_of_ble_eq_true rfl), (Nat.le_of_ble_eq_true rfl)⟩ dX11_hours_2 (fun H locs hM => ?_)
  refine lv_if_eq (pc := 5) (tgt := 43) hx hb dX11_hours_5 (by decide) (fun hc => ?_) (fun hc => ?_)
  · have h := if_t hc h
    exact wjX11_hours_43 hX _ _ h H locs ls hM (lv_sub hl [0] rfl)
  · have h := if_f hc h
    refine lv_iload_n (pc := 8) hx hb dX11_hours_8 rfl (lv_at hl 2 rfl) ?_
    refine lv_i2l (pc := 9) (v := ((a2).toInt64)) hx hb dX11_hours_9 rfl ?_
    refine lv_lconst (pc := 10) (v := (0 : Int64)) hx hb dX11_hours_10 (by decide) ?_
    refine lv_ldc2 (pc := 11) (v := (50999 : Int64)) hx hb X.1.2.2.2.1 (X.1.2.2.2.2 _ g_1571) dX11_hours_11 ?_
    obtain ⟨v6, e5, h⟩ := ob h
    refine bz_callS1 (pc := 14) (As := [.long ((a2).toInt64), .long (0 : Int64), .long (50999 : Int64)]) (rest := []) X hM hl.1 k_RX11_57 (ctX11_in l e5) rfl rfl ⟨(Nat.le_of_ble_eq_true rfl), (Nat.le_of_ble_eq_true rfl)⟩ (Nat.le_of_ble_eq_true rfl) ⟨(Nat.le_of_ble_eq_true rfl), (Nat.le_of_ble_eq_true rfl)⟩ dX11_hours_14 (fun H locs hM => ?_)
    refine lv_if_eq (pc := 17) (tgt := 43) hx hb dX11_hours_17 (by decide) (fun hc => ?_) (fun hc => ?_)
    · have h := if_t hc h
      exact wjX11_hours_43 hX _ _ h H locs ls hM (lv_sub hl [0] rfl)
    · have h := if_f hc h
      refine lv_iload_n (pc := 20) hx hb dX11_hours_20 rfl (lv_at hl 3 rfl) ?_
      refine lv_i2l (pc := 21) (v := ((a3).toInt64)) hx hb dX11_hours_21 rfl ?_
      refine lv_lconst (pc := 22) (v := (0 : Int64)) hx hb dX11_hours_22 (by decide) ?_
      refine lv_ldc2 (pc := 23) (v := (400 : Int64)) hx hb X.1.2.2.2.1 (X.1.2.2.2.2 _ g_1572) dX11_hours_23 ?_
      obtain ⟨v8, e7, h⟩ := ob h
      refine bz_callS1 (pc := 26) (As := [.long ((a3).toInt64), .long (0 : Int64), .long (400 : Int64)]) (rest := []) X hM hl.1 k_RX11_57 (ctX11_in l e7) rfl rfl ⟨(Nat.le_of_ble_eq_true rfl), (Nat.le_of_ble_eq_true rfl)⟩ (Nat.le_of_ble_eq_true rfl) ⟨(Nat.le_of_ble_eq_true rfl), (Nat.le_of_ble_eq_true rfl)⟩ dX11_hours_26 (fun H locs hM => ?_)
      refine lv_if_eq (pc := 29) (tgt := 43) hx hb dX11_hours_29 (by decide) (fun hc => ?_) (fun hc => ?_)
      · have h := if_t hc h
        exact wjX11_hours_43 hX _ _ h H locs ls hM (lv_sub hl [0] rfl)
      · have h := if_f hc h
        refine lv_iload (pc := 32) hx hb dX11_hours_32 (lv_at hl 4 rfl) ?_
        refine lv_i2l (pc := 34) (v := ((a4).toInt64)) hx hb dX11_hours_34 rfl ?_
        refine lv_lconst (pc := 35) (v := (0 : Int64)) hx hb dX11_hours_35 (by decide) ?_
        refine lv_lconst (pc := 36) (v := (1 : Int64)) hx hb dX11_hours_36 (by decide) ?_
        obtain ⟨v10, e9, h⟩ := ob h
        refine bz_callS1 (pc := 37) (As := [.long ((a4).toInt64), .long (0 : Int64), .long (1 : Int64)]) (rest := []) X hM hl.1 k_RX11_57 (ctX11_in l e9) rfl rfl ⟨(Nat.le_of_ble_eq_true rfl), (Nat.le_of_ble_eq_true rfl)⟩ (Nat.le_of_ble_eq_true rfl) ⟨(Nat.le_of_ble_eq_true rfl), (Nat.le_of_ble_eq_true rfl)⟩ dX11_hours_37 (fun H locs hM => ?_)
        refine lv_if_ne (pc := 40) (tgt := 49) hx hb dX11_hours_40 (by decide) (fun hc => ?_) (fun hc => ?_)
        · have h := if_f hc h
          refine lv_aload_n (pc := 49) hx hb dX11_hours_49 rfl (lv_at hl 0 rfl) ?_
          obtain ⟨M12, e11, h⟩ := ob h
          obtain ⟨fs13, hb14⟩ := (rX11_readAll e11)
          refine bz_callV0 (pc := 50) (As := []) (rest := []) X hM hl.1 k_RX11_120 (ctX11_readAll l e11) rfl hb14 rfl rfl ⟨(Nat.le_of_ble_eq_true rfl), (Nat.le_of_ble_eq_true rfl)⟩ (Nat.le_of_ble_eq_true rfl) ⟨(Nat.le_of_ble_eq_true rfl), (Nat.le_of_ble_eq_true rfl)⟩ dX11_hours_50 (fun H locs hM => ?_)
          refine lv_iconst (pc := 53) (v := (0 : Int32)) hx hb dX11_hours_53 (by decide) ?_
          refine lv_istore (pc := 54) (lv' := [(5, .int (0 : Int32)), (0, .ref (pB P + a0)), (1, .int a1), (2, .int a2), (3, .int a3), (4, .int a4)]) hx hb dX11_hours_54 hl (by decide) rfl (fun ls hl => ?_)
          refine lv_aload_n (pc := 56) hx hb dX11_hours_56 rfl (lv_at hl 1 rfl) ?_
          refine lv_iload_n (pc := 57) hx hb dX11_hours_57 rfl (lv_at hl 2 rfl) ?_
          refine lv_iload_n (pc := 58) hx hb dX11_hours_58 rfl (lv_at hl 3 rfl) ?_
          refine lv_sipush (pc := 59) (v := (1000 : Int32)) hx hb dX11_hours_59 (by decide) ?_
          refine bz_irem (pc := 62) hx hb dX11_hours_62 (by decide) ?_
          refine lv_iload_n (pc := 63) hx hb dX11_hours_63 rfl (lv_at hl 3 rfl) ?_
          refine lv_sipush (pc := 64) (v := (1000 : Int32)) hx hb dX11_hours_64 (by decide) ?_
          refine lv_idiv (pc := 67) hx hb dX11_hours_67 (by decide) ?_
          refine lv_iconst (pc := 68) (v := (0 : Int32)) hx hb dX11_hours_68 (by decide) ?_
          obtain ⟨v16, e15, h⟩ := ob h
          obtain ⟨fs17, hb18⟩ := (rX11_met e15)
          refine bz_callV1 (pc := 69) (As := [.int a1, .int (rmI a2 ((1000 : Int32))), .int (a2 / (1000 : Int32)), .int (0 : Int32)]) (rest := []) X hM hl.1 k_RX11_139 (ctX11_met l e15) rfl hb18 rfl rfl ⟨(Nat.le_of_ble_eq_true rfl), (Nat.le_of_ble_eq_true rfl)⟩ (Nat.le_of_ble_eq_true rfl) ⟨(Nat.le_of_ble_eq_true rfl), (Nat.le_of_ble_eq_true rfl)⟩ dX11_hours_69 (fun H locs hM => ?_)
          refine lv_istore (pc := 72) (lv' := [(6, .int v16), (5, .int (0 : Int32)), (0, .ref (pB P + a0)), (1, .int a1), (2, .int a2), (3, .int a3), (4, .int a4)]) hx hb dX11_hours_72 hl (by decide) rfl (fun ls hl => ?_)
          refine lv_iconst (pc := 74) (v := (1 : Int32)) hx hb dX11_hours_74 (by decide) ?_
          refine lv_istore (pc := 75) (lv' := [(7, .int (1 : Int32)), (6, .int v16), (5, .int (0 : Int32)), (0, .ref (pB P + a0)), (1, .int a1), (2, .int a2), (3, .int a3), (4, .int a4)]) hx hb dX11_hours_75 hl (by decide) rfl (fun ls hl => ?_)
          exact wLX11_hours_77 hX _ _ _ _ _ _ _ _ _ _ h H locs ls hM (lv_sub hl [3, 4, 5, 6, 7, 2, 1, 0] rfl)
        · have h := if_t hc h
          exact wjX11_hours_43 hX _ _ h H locs ls hM (lv_sub hl [0] rfl)
theorem rX11_hours {N : Nat} {M : Mm} {a0 : Nat} {a1 : Int32} {a2 : Int32} {a3 : Int32} {a4 : Int32} {r9 : Int32 × Mm} (h : fX11_hours N M a0 a1 a2 a3 a4 = some r9) : ∃ fs, M[a0]? = some (.inr (11, fs)) := by
  unfold fX11_hours at h
  obtain ⟨_, e1, _⟩ := ob h
  exact gC_spec e1
theorem ctX11_hours (l : Launch) {P : PT} {N : Nat} {M : Mm} {a0 : Nat} {a1 : Int32} {a2 : Int32} {a3 : Int32} {a4 : Int32} {r9 : Int32} {M9 : Mm} (h : fX11_hours N M a0 a1 a2 a3 a4 = some (r9, M9)) : Ct l yX11_hours cX11_hours 10 (some .int) 4 0 P [.ref (pB P + a0), .int a1, .int a2, .int a3, .int a4] M (some (.int r9)) M9 :=
  Ct.mk (by decide +kernel) (Nat.le_of_ble_eq_true rfl) (fun p e s m args below meth c hX => wX11_hours hX M a0 a1 a2 a3 a4 h)
set_option maxHeartbeats 4000000 in
set_option maxRecDepth 100000 in
theorem wX10_isPeriod {p : Program} {l : Launch} {e : Env} {s : State} {m : MethodId} {args : Array Value} {below : List Frame} {meth : Method} {c : Code} {P : PT}  {r9 : Int32} (hX : Cy p s m args c meth cX10_isPeriod 1 RX10 "isPeriod" (some .boolean) P)  (M : Mm) (a0 : Int32) (h : fX10_isPeriod M a0 = some r9) : Wq p l e s m args below meth c 1 0 (some (.int r9)) M 1 P 0 0 [(0, .int a0)] [] M := by
  unfold fX10_isPeriod at h
  have hX0 := hX
  obtain ⟨X, hr, hlk, hnm⟩ := hX0
  have hx := X.1.1
  have hb := X.1.2.1
  intro H locs ls hM hl
  refine lv_iload_n (pc := 0) hx hb dX10_isPeriod_0 rfl (lv_at hl 0 rfl) ?_
  refine lv_bipush (pc := 1) (v := (12 : Int32)) hx hb dX10_isPeriod_1 (by decide) ?_
  refine lv_sipush (pc := 3) (v := (999 : Int32)) hx hb dX10_isPeriod_3 (by decide) ?_
  obtain ⟨v2, e1, h⟩ := ob h
  refine bz_callS1 (pc := 6) (As := [.int a0, .int (12 : Int32), .int (999 : Int32)]) (rest := []) X hM hl.1 k_RX10_74 (ctX10_within l e1) rfl rfl ⟨(Nat.le_of_ble_eq_true rfl), (Nat.le_of_ble_eq_true rfl)⟩ (Nat.le_of_ble_eq_true rfl) ⟨(Nat.le_of_ble_eq_true rfl), (Nat.le_of_ble_eq_true rfl)⟩ dX10_isPeriod_6 (fun H locs hM => ?_)
  obtain ⟨v3, e4, h⟩ := ob h
  obtain rfl := so1 h
  exact bz_zretz (pc := 9) X hM hr hlk e4 dX10_isPeriod_9 (Nat.le_of_ble_eq_true rfl) (Nat.le_of_ble_eq_true rfl)
theorem ctX10_isPeriod (l : Launch) {P : PT} {M : Mm} {a0 : Int32} {r9 : Int32} (h : fX10_isPeriod M a0 = some r9) : Ct l yX10_isPeriod cX10_isPeriod 1 (some .boolean) 1 0 P [.int a0] M (some (.int r9)) M :=
  Ct.mk (by decide +kernel) (Nat.le_of_ble_eq_true rfl) (fun p e s m args below meth c hX => wX10_isPeriod hX M a0 h)
set_option maxHeartbeats 4000000 in
set_option maxRecDepth 100000 in
theorem wBX7_spreadBy_64 {p : Program} {l : Launch} {e : Env} {s : State} {m : MethodId} {args : Array Value} {below : List Frame} {meth : Method} {c : Code} {P : PT} {N : Nat} {K64 : Mm → Nat → Int32 → Int32 → Option (Int32 × Mm)}  {r9 : Int32} {M9 : Mm} (hX : Cy p s m args c meth cX7_spreadBy 4 RX7 "spreadBy" (some .int) P)  (hK64 : ∀ (M : Mm) (x0 : Nat) (x2 : Int32) (x3 : Int32), K64 M x0 x2 x3 = some (r9, M9) → Wq p l e s m args below meth c 2 0 (some (.int r9)) M9 4 P 0 64 [(0, .ref (pB P + x0)), (2, .int x2), (3, .int x3)] [] M) (M : Mm) (x0 : Nat) (x2 : Int32) (x3 : Int32)  (h : BX7_spreadBy_64 N K64 M x0 x2 x3 = some (r9, M9)) : Wq p l e s m args below meth c 2 0 (some (.int r9)) M9 4 P 0 64 [(0, .ref (pB P + x0)), (2, .int x2), (3, .int x3)] [] M := by
  unfold BX7_spreadBy_64 at h
  have hX0 := hX
  obtain ⟨X, hr, hlk, hnm⟩ := hX0
  have hx := X.1.1
  have hb := X.1.2.1
  intro H locs ls hM hl
  refine lv_iload_n (pc := 64) hx hb dX7_spreadBy_64 rfl (lv_at hl 2 rfl) ?_
  refine lv_bipush (pc := 65) (v := (12 : Int32)) hx hb dX7_spreadBy_65 (by decide) ?_
  refine lv_icmp_ge (pc := 67) (tgt := 96) hx hb dX7_spreadBy_67 (by decide) (fun hc => ?_) (fun hc => ?_)
  · have h := if_t hc h
    refine lv_iload_n (pc := 96) hx hb dX7_spreadBy_96 rfl (lv_at hl 1 rfl) ?_
    obtain ⟨rfl, rfl⟩ := so2 h
    exact bz_iret (pc := 97) X hM hr hlk dX7_spreadBy_97 (Nat.le_of_ble_eq_true rfl) (Nat.le_of_ble_eq_true rfl)
  · have h := if_f hc h
    refine lv_iload_n (pc := 70) hx hb dX7_spreadBy_70 rfl (lv_at hl 1 rfl) ?_
    refine lv_aload_n (pc := 71) hx hb dX7_spreadBy_71 rfl (lv_at hl 0 rfl) ?_
    obtain ⟨q1, e2, h⟩ := ob h
    refine bz_getQ (pc := 72) X hM fl_RX7_35 e2 dX7_spreadBy_72 ?_
    refine lv_iload_n (pc := 75) hx hb dX7_spreadBy_75 rfl (lv_at hl 2 rfl) ?_
    obtain ⟨v4, e3, h⟩ := ob h
    obtain ⟨fs5, hb6⟩ := (rX3_at e3)
    refine bz_callV1 (pc := 76) (As := [.int x3]) (rest := [.int x2]) X hM hl.1 k_RX7_49 (ctX3_at l e3) rfl hb6 rfl rfl ⟨(Nat.le_of_ble_eq_true rfl), (Nat.le_of_ble_eq_true rfl)⟩ (Nat.le_of_ble_eq_true rfl) ⟨(Nat.le_of_ble_eq_true rfl), (Nat.le_of_ble_eq_true rfl)⟩ dX7_spreadBy_76 (fun H locs hM => ?_)
    refine lv_aload_n (pc := 79) hx hb dX7_spreadBy_79 rfl (lv_at hl 0 rfl) ?_
    obtain ⟨q7, e8, h⟩ := ob h
    refine bz_getQ (pc := 80) X hM fl_RX7_35 e8 dX7_spreadBy_80 ?_
    refine lv_iload_n (pc := 83) hx hb dX7_spreadBy_83 rfl (lv_at hl 2 rfl) ?_
    obtain ⟨v10, e9, h⟩ := ob h
    obtain ⟨fs11, hb12⟩ := (rX3_at e9)
    refine bz_callV1 (pc := 84) (As := [.int x3]) (rest := [.int v4, .int x2]) X hM hl.1 k_RX7_49 (ctX3_at l e9) rfl hb12 rfl rfl ⟨(Nat.le_of_ble_eq_true rfl), (Nat.le_of_ble_eq_true rfl)⟩ (Nat.le_of_ble_eq_true rfl) ⟨(Nat.le_of_ble_eq_true rfl), (Nat.le_of_ble_eq_true rfl)⟩ dX7_spreadBy_84 (fun H locs hM => ?_)
    refine lv_imul (pc := 87) hx hb dX7_spreadBy_87 ?_
    refine lv_iadd (pc := 88) hx hb dX7_spreadBy_88 ?_
    refine lv_istore_n (pc := 89) (lv' := [(2, .int (x2 + (v4 * v10))), (0, .ref (pB P + x0)), (3, .int x3)]) hx hb dX7_spreadBy_89 rfl hl (by decide) rfl (fun ls hl => ?_)
    refine lv_iinc (pc := 90) (v := (x3 + (1 : Int32))) (lv' := [(3, .int (x3 + (1 : Int32))), (2, .int (x2 + (v4 * v10))), (0, .ref (pB P + x0))]) hx hb dX7_spreadBy_90 hl (k := 2) rfl rfl (by decide) rfl (fun ls hl => ?_)
    refine lv_goto (pc := 93) (tgt := 64) hx hb dX7_spreadBy_93 (by decide) ?_
    exact hK64 _ _ _ _ h H locs ls hM (lv_sub hl [2, 1, 0] rfl)
set_option maxHeartbeats 4000000 in
set_option maxRecDepth 100000 in
theorem wLX7_spreadBy_64 {p : Program} {l : Launch} {e : Env} {s : State} {m : MethodId} {args : Array Value} {below : List Frame} {meth : Method} {c : Code} {P : PT} {N : Nat}  {r9 : Int32} {M9 : Mm} (hX : Cy p s m args c meth cX7_spreadBy 4 RX7 "spreadBy" (some .int) P)   : ∀ (n : Nat) (M : Mm) (x0 : Nat) (x2 : Int32) (x3 : Int32) , LX7_spreadBy_64 N n M x0 x2 x3 = some (r9, M9) → Wq p l e s m args below meth c 2 0 (some (.int r9)) M9 4 P 0 64 [(0, .ref (pB P + x0)), (2, .int x2), (3, .int x3)] [] M := by
  intro n
  induction n with
  | zero => intro M x0 x2 x3 h; cases h
  | succ n ih => intro M x0 x2 x3 h; exact wBX7_spreadBy_64 hX ih M x0 x2 x3 h
set_option maxHeartbeats 4000000 in
set_option maxRecDepth 100000 in
theorem wBX7_spreadBy_18 {p : Program} {l : Launch} {e : Env} {s : State} {m : MethodId} {args : Array Value} {below : List Frame} {meth : Method} {c : Code} {P : PT} {N : Nat} {K18 : Mm → Nat → Int32 → Int32 → Option (Int32 × Mm)}  {r9 : Int32} {M9 : Mm} (hX : Cy p s m args c meth cX7_spreadBy 4 RX7 "spreadBy" (some .int) P)  (hK18 : ∀ (M : Mm) (x0 : Nat) (x1 : Int32) (x2 : Int32), K18 M x0 x1 x2 = some (r9, M9) → Wq p l e s m args below meth c 2 0 (some (.int r9)) M9 4 P 0 18 [(0, .ref (pB P + x0)), (1, .int x1), (2, .int x2)] [] M) (M : Mm) (x0 : Nat) (x1 : Int32) (x2 : Int32)  (h : BX7_spreadBy_18 N K18 M x0 x1 x2 = some (r9, M9)) : Wq p l e s m args below meth c 2 0 (some (.int r9)) M9 4 P 0 18 [(0, .ref (pB P + x0)), (1, .int x1), (2, .int x2)] [] M := by
  unfold BX7_spreadBy_18 at h
  have hX0 := hX
  obtain ⟨X, hr, hlk, hnm⟩ := hX0
  have hx := X.1.1
  have hb := X.1.2.1
  intro H locs ls hM hl
  refine lv_iload_n (pc := 18) hx hb dX7_spreadBy_18 rfl (lv_at hl 2 rfl) ?_
  refine lv_aload_n (pc := 19) hx hb dX7_spreadBy_19 rfl (lv_at hl 0 rfl) ?_
  obtain ⟨q1, e2, h⟩ := ob h
  refine bz_getQ (pc := 20) X hM fl_RX7_32 e2 dX7_spreadBy_20 ?_
  obtain ⟨v4, e3, h⟩ := ob h
  obtain ⟨fs5, hb6⟩ := (rX3_size e3)
  refine bz_callV1 (pc := 23) (As := []) (rest := [.int x2]) X hM hl.1 k_RX7_63 (ctX3_size l e3) rfl hb6 rfl rfl ⟨(Nat.le_of_ble_eq_true rfl), (Nat.le_of_ble_eq_true rfl)⟩ (Nat.le_of_ble_eq_true rfl) ⟨(Nat.le_of_ble_eq_true rfl), (Nat.le_of_ble_eq_true rfl)⟩ dX7_spreadBy_23 (fun H locs hM => ?_)
  refine lv_icmp_ge (pc := 26) (tgt := 60) hx hb dX7_spreadBy_26 (by decide) (fun hc => ?_) (fun hc => ?_)
  · have h := if_t hc h
    refine lv_iconst (pc := 60) (v := (0 : Int32)) hx hb dX7_spreadBy_60 (by decide) ?_
    refine lv_istore_n (pc := 61) (lv' := [(2, .int (0 : Int32)), (0, .ref (pB P + x0)), (1, .int x1)]) hx hb dX7_spreadBy_61 rfl hl (by decide) rfl (fun ls hl => ?_)
    refine lv_iconst (pc := 62) (v := (0 : Int32)) hx hb dX7_spreadBy_62 (by decide) ?_
    refine lv_istore_n (pc := 63) (lv' := [(3, .int (0 : Int32)), (2, .int (0 : Int32)), (0, .ref (pB P + x0)), (1, .int x1)]) hx hb dX7_spreadBy_63 rfl hl (by decide) rfl (fun ls hl => ?_)
    exact wLX7_spreadBy_64 hX _ _ _ _ _ h H locs ls hM (lv_sub hl [2, 1, 0] rfl)
  · have h := if_f hc h
    refine lv_aload_n (pc := 29) hx hb dX7_spreadBy_29 rfl (lv_at hl 0 rfl) ?_
    obtain ⟨q7, e8, h⟩ := ob h
    refine bz_getQ (pc := 30) X hM fl_RX7_35 e8 dX7_spreadBy_30 ?_
    refine lv_bipush (pc := 33) (v := (12 : Int32)) hx hb dX7_spreadBy_33 (by decide) ?_
    refine lv_aload_n (pc := 35) hx hb dX7_spreadBy_35 rfl (lv_at hl 0 rfl) ?_
    obtain ⟨q9, e10, h⟩ := ob h
    refine bz_getQ (pc := 36) X hM fl_RX7_32 e10 dX7_spreadBy_36 ?_
    refine lv_iload_n (pc := 39) hx hb dX7_spreadBy_39 rfl (lv_at hl 2 rfl) ?_
    obtain ⟨v12, e11, h⟩ := ob h
    obtain ⟨fs13, hb14⟩ := (rX3_at e11)
    refine bz_callV1 (pc := 40) (As := [.int x2]) (rest := [.int (12 : Int32), .ref (pB P + q7)]) X hM hl.1 k_RX7_49 (ctX3_at l e11) rfl hb14 rfl rfl ⟨(Nat.le_of_ble_eq_true rfl), (Nat.le_of_ble_eq_true rfl)⟩ (Nat.le_of_ble_eq_true rfl) ⟨(Nat.le_of_ble_eq_true rfl), (Nat.le_of_ble_eq_true rfl)⟩ dX7_spreadBy_40 (fun H locs hM => ?_)
    refine lv_iload_n (pc := 43) hx hb dX7_spreadBy_43 rfl (lv_at hl 1 rfl) ?_
    obtain ⟨v16, e15, h⟩ := ob h
    refine bz_callS1 (pc := 44) (As := [.int v12, .int x1]) (rest := [.int (12 : Int32), .ref (pB P + q7)]) X hM hl.1 k_RX7_84 (ctJ9_floorMod_7cf53 l e15) rfl rfl ⟨(Nat.le_of_ble_eq_true rfl), (Nat.le_of_ble_eq_true rfl)⟩ (Nat.le_of_ble_eq_true rfl) ⟨(Nat.le_of_ble_eq_true rfl), (Nat.le_of_ble_eq_true rfl)⟩ dX7_spreadBy_44 (fun H locs hM => ?_)
    refine lv_imul (pc := 47) hx hb dX7_spreadBy_47 ?_
    refine lv_iload_n (pc := 48) hx hb dX7_spreadBy_48 rfl (lv_at hl 1 rfl) ?_
    obtain ⟨v17, e18, h⟩ := ob h
    refine bz_idiv (pc := 49) hx hb e18 dX7_spreadBy_49 ?_
    refine lv_iconst (pc := 50) (v := (1 : Int32)) hx hb dX7_spreadBy_50 (by decide) ?_
    obtain ⟨M20, e19, h⟩ := ob h
    obtain ⟨fs21, hb22⟩ := (rX3_raise e19)
    refine bz_callV0 (pc := 51) (As := [.int v17, .int (1 : Int32)]) (rest := []) X hM hl.1 k_RX7_110 (ctX3_raise l e19) rfl hb22 rfl rfl ⟨(Nat.le_of_ble_eq_true rfl), (Nat.le_of_ble_eq_true rfl)⟩ (Nat.le_of_ble_eq_true rfl) ⟨(Nat.le_of_ble_eq_true rfl), (Nat.le_of_ble_eq_true rfl)⟩ dX7_spreadBy_51 (fun H locs hM => ?_)
    refine lv_iinc (pc := 54) (v := (x2 + (1 : Int32))) (lv' := [(2, .int (x2 + (1 : Int32))), (0, .ref (pB P + x0)), (1, .int x1)]) hx hb dX7_spreadBy_54 hl (k := 2) rfl rfl (by decide) rfl (fun ls hl => ?_)
    refine lv_goto (pc := 57) (tgt := 18) hx hb dX7_spreadBy_57 (by decide) ?_
    exact hK18 _ _ _ _ h H locs ls hM (lv_sub hl [1, 2, 0] rfl)
set_option maxHeartbeats 4000000 in
set_option maxRecDepth 100000 in
theorem wLX7_spreadBy_18 {p : Program} {l : Launch} {e : Env} {s : State} {m : MethodId} {args : Array Value} {below : List Frame} {meth : Method} {c : Code} {P : PT} {N : Nat}  {r9 : Int32} {M9 : Mm} (hX : Cy p s m args c meth cX7_spreadBy 4 RX7 "spreadBy" (some .int) P)   : ∀ (n : Nat) (M : Mm) (x0 : Nat) (x1 : Int32) (x2 : Int32) , LX7_spreadBy_18 N n M x0 x1 x2 = some (r9, M9) → Wq p l e s m args below meth c 2 0 (some (.int r9)) M9 4 P 0 18 [(0, .ref (pB P + x0)), (1, .int x1), (2, .int x2)] [] M := by
  intro n
  induction n with
  | zero => intro M x0 x1 x2 h; cases h
  | succ n ih => intro M x0 x1 x2 h; exact wBX7_spreadBy_18 hX ih M x0 x1 x2 h
set_option maxHeartbeats 4000000 in
set_option maxRecDepth 100000 in
theorem wX7_spreadBy {p : Program} {l : Launch} {e : Env} {s : State} {m : MethodId} {args : Array Value} {below : List Frame} {meth : Method} {c : Code} {P : PT} {N : Nat}  {r9 : Int32} {M9 : Mm} (hX : Cy p s m args c meth cX7_spreadBy 4 RX7 "spreadBy" (some .int) P)  (M : Mm) (a0 : Nat) (a1 : Int32) (h : fX7_spreadBy N M a0 a1 = some (r9, M9)) : Wq p l e s m args below meth c 2 0 (some (.int r9)) M9 4 P 0 0 [(0, .ref (pB P + a0)), (1, .int a1)] [] M := by
  unfold fX7_spreadBy at h
  obtain ⟨_, _, h⟩ := ob h
  have hX0 := hX
  obtain ⟨X, hr, hlk, hnm⟩ := hX0
  have hx := X.1.1
  have hb := X.1.2.1
  intro H locs ls hM hl
  refine lv_iload_n (pc := 0) hx hb dX7_spreadBy_0 rfl (lv_at hl 1 rfl) ?_
  refine lv_if_gt (pc := 1) (tgt := 6) hx hb dX7_spreadBy_1 (by decide) (fun hc => ?_) (fun hc => ?_)
  · have h := if_t hc h
    refine lv_aload_n (pc := 6) hx hb dX7_spreadBy_6 rfl (lv_at hl 0 rfl) ?_
    obtain ⟨q1, e2, h⟩ := ob h
    refine bz_getQ (pc := 7) X hM fl_RX7_35 e2 dX7_spreadBy_7 ?_
    refine lv_bipush (pc := 10) (v := (12 : Int32)) hx hb dX7_spreadBy_10 (by decide) ?_
    refine lv_iconst (pc := 12) (v := (0 : Int32)) hx hb dX7_spreadBy_12 (by decide) ?_
    obtain ⟨M4, e3, h⟩ := ob h
    obtain ⟨fs5, hb6⟩ := (rX3_fill e3)
    refine bz_callV0 (pc := 13) (As := [.int (12 : Int32), .int (0 : Int32)]) (rest := []) X hM hl.1 k_RX7_107 (ctX3_fill l e3) rfl hb6 rfl rfl ⟨(Nat.le_of_ble_eq_true rfl), (Nat.le_of_ble_eq_true rfl)⟩ (Nat.le_of_ble_eq_true rfl) ⟨(Nat.le_of_ble_eq_true rfl), (Nat.le_of_ble_eq_true rfl)⟩ dX7_spreadBy_13 (fun H locs hM => ?_)
    refine lv_iconst (pc := 16) (v := (0 : Int32)) hx hb dX7_spreadBy_16 (by decide) ?_
    refine lv_istore_n (pc := 17) (lv' := [(2, .int (0 : Int32)), (0, .ref (pB P + a0)), (1, .int a1)]) hx hb dX7_spreadBy_17 rfl hl (by decide) rfl (fun ls hl => ?_)
    exact wLX7_spreadBy_18 hX _ _ _ _ _ h H locs ls hM (lv_sub hl [1, 2, 0] rfl)
  · have h := if_f hc h
    refine lv_iconst (pc := 4) (v := (0 : Int32)) hx hb dX7_spreadBy_4 (by decide) ?_
    obtain ⟨rfl, rfl⟩ := so2 h
    exact bz_iret (pc := 5) X hM hr hlk dX7_spreadBy_5 (Nat.le_of_ble_eq_true rfl) (Nat.le_of_ble_eq_true rfl)
theorem rX7_spreadBy {N : Nat} {M : Mm} {a0 : Nat} {a1 : Int32} {r9 : Int32 × Mm} (h : fX7_spreadBy N M a0 a1 = some r9) : ∃ fs, M[a0]? = some (.inr (7, fs)) := by
  unfold fX7_spreadBy at h
  obtain ⟨_, e1, _⟩ := ob h
  exact gC_spec e1
theorem ctX7_spreadBy (l : Launch) {P : PT} {N : Nat} {M : Mm} {a0 : Nat} {a1 : Int32} {r9 : Int32} {M9 : Mm} (h : fX7_spreadBy N M a0 a1 = some (r9, M9)) : Ct l yX7_spreadBy cX7_spreadBy 4 (some .int) 2 0 P [.ref (pB P + a0), .int a1] M (some (.int r9)) M9 :=
  Ct.mk (by decide +kernel) (Nat.le_of_ble_eq_true rfl) (fun p e s m args below meth c hX => wX7_spreadBy hX M a0 a1 h)
set_option maxHeartbeats 4000000 in
set_option maxRecDepth 100000 in
theorem wjX10_spread_22 {p : Program} {l : Launch} {e : Env} {s : State} {m : MethodId} {args : Array Value} {below : List Frame} {meth : Method} {c : Code} {P : PT} {N : Nat}  {r9 : Int32} {M9 : Mm} (hX : Cy p s m args c meth cX10_spread 4 RX10 "spread" (some .int) P)   (M : Mm) (x0 : Nat)  (h : jX10_spread_22 N M x0 = some (r9, M9)) : Wq p l e s m args below meth c 5 0 (some (.int r9)) M9 4 P 0 22 [(0, .ref (pB P + x0))] [] M := by
  unfold jX10_spread_22 at h
  have hX0 := hX
  obtain ⟨X, hr, hlk, hnm⟩ := hX0
  have hx := X.1.1
  have hb := X.1.2.1
  intro H locs ls hM hl
  refine lv_aload_n (pc := 22) hx hb dX10_spread_22 rfl (lv_at hl 0 rfl) ?_
  refine lv_iconst (pc := 23) (v := (1 : Int32)) hx hb dX10_spread_23 (by decide) ?_
  obtain ⟨v2, M3, e1, h⟩ := ob2 h
  obtain ⟨fs4, hb5⟩ := (rX10_error e1)
  refine bz_callV1 (pc := 24) (As := [.int (1 : Int32)]) (rest := []) X hM hl.1 k_RX10_78 (ctX10_error l e1) rfl hb5 rfl rfl ⟨(Nat.le_of_ble_eq_true rfl), (Nat.le_of_ble_eq_true rfl)⟩ (Nat.le_of_ble_eq_true rfl) ⟨(Nat.le_of_ble_eq_true rfl), (Nat.le_of_ble_eq_true rfl)⟩ dX10_spread_24 (fun H locs hM => ?_)
  obtain ⟨rfl, rfl⟩ := so2 h
  exact bz_iret (pc := 27) X hM hr hlk dX10_spread_27 (Nat.le_of_ble_eq_true rfl) (Nat.le_of_ble_eq_true rfl)
set_option maxHeartbeats 4000000 in
set_option maxRecDepth 100000 in
theorem wX10_spread {p : Program} {l : Launch} {e : Env} {s : State} {m : MethodId} {args : Array Value} {below : List Frame} {meth : Method} {c : Code} {P : PT} {N : Nat}  {r9 : Int32} {M9 : Mm} (hX : Cy p s m args c meth cX10_spread 4 RX10 "spread" (some .int) P)  (M : Mm) (a0 : Nat) (a1 : Int32) (a2 : Int32) (a3 : Int32) (h : fX10_spread N M a0 a1 a2 a3 = some (r9, M9)) : Wq p l e s m args below meth c 5 0 (some (.int r9)) M9 4 P 0 0 [(0, .ref (pB P + a0)), (1, .int a1), (2, .int a2), (3, .int a3)] [] M := by
  unfold fX10_spread at h
  obtain ⟨_, _, h⟩ := ob h
  have hX0 := hX
  obtain ⟨X, hr, hlk, hnm⟩ := hX0
  have hx := X.1.1
  have hb := X.1.2.1
  intro H locs ls hM hl
  refine lv_aload_n (pc := 0) hx hb dX10_spread_0 rfl (lv_at hl 0 rfl) ?_
  refine lv_iload_n (pc := 1) hx hb dX10_spread_1 rfl (lv_at hl 1 rfl) ?_
  obtain ⟨v2, e1, h⟩ := ob h
  obtain ⟨fs3, hb4⟩ := (rX10_isBar e1)
  refine bz_callV1 (pc := 2) (As := [.int a1]) (rest := []) X hM hl.1 k_RX10_100 (ctX10_isBar l e1) rfl hb4 rfl rfl ⟨(Nat.le_of_ble_eq_true rfl), (Nat.le_of_ble_eq_true rfl)⟩ (Nat.le_of_ble_eq_true rfl) ⟨(Nat.le_of_ble_eq_true rfl), (Nat.le_of_ble_eq_true rfl)⟩ dX10_spread_2 (fun H locs hM => ?_)
  refine lv_if_eq (pc := 5) (tgt := 22) hx hb dX10_spread_5 (by decide) (fun hc => ?_) (fun hc => ?_)
  · have h := if_t hc h
    exact wjX10_spread_22 hX _ _ h H locs ls hM (lv_sub hl [0] rfl)
  · have h := if_f hc h
    refine lv_iload_n (pc := 8) hx hb dX10_spread_8 rfl (lv_at hl 2 rfl) ?_
    obtain ⟨v6, e5, h⟩ := ob h
    refine bz_callS1 (pc := 9) (As := [.int a2]) (rest := []) X hM hl.1 k_RX10_145 (ctX10_isLine l e5) rfl rfl ⟨(Nat.le_of_ble_eq_true rfl), (Nat.le_of_ble_eq_true rfl)⟩ (Nat.le_of_ble_eq_true rfl) ⟨(Nat.le_of_ble_eq_true rfl), (Nat.le_of_ble_eq_true rfl)⟩ dX10_spread_9 (fun H locs hM => ?_)
    refine lv_if_eq (pc := 12) (tgt := 22) hx hb dX10_spread_12 (by decide) (fun hc => ?_) (fun hc => ?_)
    · have h := if_t hc h
      exact wjX10_spread_22 hX _ _ h H locs ls hM (lv_sub hl [0] rfl)
    · have h := if_f hc h
      refine lv_iload_n (pc := 15) hx hb dX10_spread_15 rfl (lv_at hl 3 rfl) ?_
      obtain ⟨v8, e7, h⟩ := ob h
      refine bz_callS1 (pc := 16) (As := [.int a3]) (rest := []) X hM hl.1 k_RX10_309 (ctX10_isPeriod l e7) rfl rfl ⟨(Nat.le_of_ble_eq_true rfl), (Nat.le_of_ble_eq_true rfl)⟩ (Nat.le_of_ble_eq_true rfl) ⟨(Nat.le_of_ble_eq_true rfl), (Nat.le_of_ble_eq_true rfl)⟩ dX10_spread_16 (fun H locs hM => ?_)
      refine lv_if_ne (pc := 19) (tgt := 28) hx hb dX10_spread_19 (by decide) (fun hc => ?_) (fun hc => ?_)
      · have h := if_f hc h
        refine lv_aload_n (pc := 28) hx hb dX10_spread_28 rfl (lv_at hl 0 rfl) ?_
        obtain ⟨q9, e10, h⟩ := ob h
        refine bz_getQ (pc := 29) X hM fl_RX10_49 e10 dX10_spread_29 ?_
        refine lv_aload_n (pc := 32) hx hb dX10_spread_32 rfl (lv_at hl 0 rfl) ?_
        obtain ⟨q11, e12, h⟩ := ob h
        refine bz_getQ (pc := 33) X hM fl_RX10_10 e12 dX10_spread_33 ?_
        refine lv_iload_n (pc := 36) hx hb dX10_spread_36 rfl (lv_at hl 1 rfl) ?_
        obtain ⟨M14, e13, h⟩ := ob h
        obtain ⟨fs15, hb16⟩ := (rX7_hear e13)
        refine bz_callV0 (pc := 37) (As := [.ref (pB P + q11), .int a1]) (rest := []) X hM hl.1 k_RX10_148 (ctX7_hear l e13) rfl hb16 rfl rfl ⟨(Nat.le_of_ble_eq_true rfl), (Nat.le_of_ble_eq_true rfl)⟩ (Nat.le_of_ble_eq_true rfl) ⟨(Nat.le_of_ble_eq_true rfl), (Nat.le_of_ble_eq_true rfl)⟩ dX10_spread_37 (fun H locs hM => ?_)
        refine lv_aload_n (pc := 40) hx hb dX10_spread_40 rfl (lv_at hl 0 rfl) ?_
        obtain ⟨q17, e18, h⟩ := ob h
        refine bz_getQ (pc := 41) X hM fl_RX10_49 e18 dX10_spread_41 ?_
        refine lv_iload_n (pc := 44) hx hb dX10_spread_44 rfl (lv_at hl 2 rfl) ?_
        obtain ⟨M20, e19, h⟩ := ob h
        obtain ⟨fs21, hb22⟩ := (rX7_keepAbove e19)
        refine bz_callV0 (pc := 45) (As := [.int a2]) (rest := []) X hM hl.1 k_RX10_293 (ctX7_keepAbove l e19) rfl hb22 rfl rfl ⟨(Nat.le_of_ble_eq_true rfl), (Nat.le_of_ble_eq_true rfl)⟩ (Nat.le_of_ble_eq_true rfl) ⟨(Nat.le_of_ble_eq_true rfl), (Nat.le_of_ble_eq_true rfl)⟩ dX10_spread_45 (fun H locs hM => ?_)
        refine lv_aload_n (pc := 48) hx hb dX10_spread_48 rfl (lv_at hl 0 rfl) ?_
        obtain ⟨q23, e24, h⟩ := ob h
        refine bz_getQ (pc := 49) X hM fl_RX10_49 e24 dX10_spread_49 ?_
        refine lv_iload_n (pc := 52) hx hb dX10_spread_52 rfl (lv_at hl 3 rfl) ?_
        obtain ⟨v26, M27, e25, h⟩ := ob2 h
        obtain ⟨fs28, hb29⟩ := (rX7_spreadBy e25)
        refine bz_callV1 (pc := 53) (As := [.int a3]) (rest := []) X hM hl.1 k_RX10_312 (ctX7_spreadBy l e25) rfl hb29 rfl rfl ⟨(Nat.le_of_ble_eq_true rfl), (Nat.le_of_ble_eq_true rfl)⟩ (Nat.le_of_ble_eq_true rfl) ⟨(Nat.le_of_ble_eq_true rfl), (Nat.le_of_ble_eq_true rfl)⟩ dX10_spread_53 (fun H locs hM => ?_)
        obtain ⟨rfl, rfl⟩ := so2 h
        exact bz_iret (pc := 56) X hM hr hlk dX10_spread_56 (Nat.le_of_ble_eq_true rfl) (Nat.le_of_ble_eq_true rfl)
      · have h := if_t hc h
        exact wjX10_spread_22 hX _ _ h H locs ls hM (lv_sub hl [0] rfl)
theorem rX10_spread {N : Nat} {M : Mm} {a0 : Nat} {a1 : Int32} {a2 : Int32} {a3 : Int32} {r9 : Int32 × Mm} (h : fX10_spread N M a0 a1 a2 a3 = some r9) : ∃ fs, M[a0]? = some (.inr (10, fs)) := by
  unfold fX10_spread at h
  obtain ⟨_, e1, _⟩ := ob h
  exact gC_spec e1
theorem ctX10_spread (l : Launch) {P : PT} {N : Nat} {M : Mm} {a0 : Nat} {a1 : Int32} {a2 : Int32} {a3 : Int32} {r9 : Int32} {M9 : Mm} (h : fX10_spread N M a0 a1 a2 a3 = some (r9, M9)) : Ct l yX10_spread cX10_spread 4 (some .int) 5 0 P [.ref (pB P + a0), .int a1, .int a2, .int a3] M (some (.int r9)) M9 :=
  Ct.mk (by decide +kernel) (Nat.le_of_ble_eq_true rfl) (fun p e s m args below meth c hX => wX10_spread hX M a0 a1 a2 a3 h)
