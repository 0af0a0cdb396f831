set_option maxHeartbeats 4000000 in
set_option maxRecDepth 100000 in
theorem wX3_insert {p : Program} {l : Launch} {e : Env} {s : State} {m : MethodId} {args : Array Value} {below : List Frame} {meth : Method} {c : Code} {P : PT}  {M9 : Mm} (hX : Cy p s m args c meth cX3_insert 3 RX3 "insert" none P)  (M : Mm) (a0 : Nat) (a1 : Int32) (a2 : Int32) (h : fX3_insert M a0 a1 a2 = some M9) : Wq p l e s m args below meth c 1 0 none M9 3 P 0 0 [(0, .ref (pB P + a0)), (1, .int a1), (2, .int a2)] [] M := by
  unfold fX3_insert at h
  obtain ⟨_, _, h⟩ := ob h
  have hX0 := hX
  obtain ⟨X, hr, hlk, hnm⟩ := hX0
  have hx := X.1.1
  have hb := X.1.2.1
  intro H locs ls hM hl
  refine lv_iload_n (pc := 0) hx hb dX3_insert_0 rfl (lv_at hl 1 rfl) ?_
  refine lv_if_lt (pc := 1) (tgt := 24) hx hb dX3_insert_1 (by decide) (fun hc => ?_) (fun hc => ?_)
  · have h := if_t hc h
    obtain rfl := so1 h
    exact bz_vret (pc := 24) X hM hr hlk dX3_insert_24 (Nat.le_of_ble_eq_true rfl) (Nat.le_of_ble_eq_true rfl)
  · have h := if_f hc h
    refine lv_iload_n (pc := 4) hx hb dX3_insert_4 rfl (lv_at hl 1 rfl) ?_
    refine lv_aload_n (pc := 5) hx hb dX3_insert_5 rfl (lv_at hl 0 rfl) ?_
    obtain ⟨v1, e2, h⟩ := ob h
    refine bz_getI (pc := 6) X hM fl_RX3_19 e2 dX3_insert_6 ?_
    refine lv_icmp_gt (pc := 9) (tgt := 24) hx hb dX3_insert_9 (by decide) (fun hc => ?_) (fun hc => ?_)
    · have h := if_t hc h
      obtain rfl := so1 h
      exact bz_vret (pc := 24) X hM hr hlk dX3_insert_24 (Nat.le_of_ble_eq_true rfl) (Nat.le_of_ble_eq_true rfl)
    · have h := if_f hc h
      refine lv_aload_n (pc := 12) hx hb dX3_insert_12 rfl (lv_at hl 0 rfl) ?_
      obtain ⟨v3, e4, h⟩ := ob h
      refine bz_getI (pc := 13) X hM fl_RX3_19 e4 dX3_insert_13 ?_
      refine lv_aload_n (pc := 16) hx hb dX3_insert_16 rfl (lv_at hl 0 rfl) ?_
      obtain ⟨q5, e6, h⟩ := ob h
      refine bz_getQ (pc := 17) X hM fl_RX3_13 e6 dX3_insert_17 ?_
      obtain ⟨v7, e8, h⟩ := ob h
      refine bz_alen (pc := 20) X hM e8 dX3_insert_20 ?_
      refine lv_icmp_lt (pc := 21) (tgt := 25) hx hb dX3_insert_21 (by decide) (fun hc => ?_) (fun hc => ?_)
      · have h := if_t hc h
        refine lv_aload_n (pc := 25) hx hb dX3_insert_25 rfl (lv_at hl 0 rfl) ?_
        obtain ⟨q9, e10, h⟩ := ob h
        refine bz_getQ (pc := 26) X hM fl_RX3_13 e10 dX3_insert_26 ?_
        refine lv_iload_n (pc := 29) hx hb dX3_insert_29 rfl (lv_at hl 1 rfl) ?_
        refine lv_aload_n (pc := 30) hx hb dX3_insert_30 rfl (lv_at hl 0 rfl) ?_
        obtain ⟨q11, e12, h⟩ := ob h
        refine bz_getQ (pc := 31) X hM fl_RX3_13 e12 dX3_insert_31 ?_
        refine lv_iload_n (pc := 34) hx hb dX3_insert_34 rfl (lv_at hl 1 rfl) ?_
        refine lv_iconst (pc := 35) (v := (1 : Int32)) hx hb dX3_insert_35 (by decide) ?_
        refine lv_iadd (pc := 36) hx hb dX3_insert_36 ?_
        refine lv_aload_n (pc := 37) hx hb dX3_insert_37 rfl (lv_at hl 0 rfl) ?_
        obtain ⟨v13, e14, h⟩ := ob h
        refine bz_getI (pc := 38) X hM fl_RX3_19 e14 dX3_insert_38 ?_
        refine lv_iload_n (pc := 41) hx hb dX3_insert_41 rfl (lv_at hl 1 rfl) ?_
        refine lv_isub (pc := 42) hx hb dX3_insert_42 ?_
        obtain ⟨M15, e16, h⟩ := ob h
        refine bz_copy (pc := 43) X hM hl.1 g_478 m_an m_as m_ai e16 (Nat.le_of_ble_eq_true rfl) (Nat.le_of_ble_eq_true rfl) dX3_insert_43 (fun H locs hM => ?_)
        refine lv_aload_n (pc := 46) hx hb dX3_insert_46 rfl (lv_at hl 0 rfl) ?_
        obtain ⟨q17, e18, h⟩ := ob h
        refine bz_getQ (pc := 47) X hM fl_RX3_13 e18 dX3_insert_47 ?_
        refine lv_iload_n (pc := 50) hx hb dX3_insert_50 rfl (lv_at hl 1 rfl) ?_
        refine lv_iload_n (pc := 51) hx hb dX3_insert_51 rfl (lv_at hl 2 rfl) ?_
        obtain ⟨M19, e20, h⟩ := ob h
        refine bz_iast (pc := 52) X hM e20 dX3_insert_52 (fun H locs hM => ?_)
        refine lv_aload_n (pc := 53) hx hb dX3_insert_53 rfl (lv_at hl 0 rfl) ?_
        refine lv_dup (pc := 54) hx hb dX3_insert_54 rfl ?_
        obtain ⟨v21, e22, h⟩ := ob h
        refine bz_getI (pc := 55) X hM fl_RX3_19 e22 dX3_insert_55 ?_
        refine lv_iconst (pc := 58) (v := (1 : Int32)) hx hb dX3_insert_58 (by decide) ?_
        refine lv_iadd (pc := 59) hx hb dX3_insert_59 ?_
        obtain ⟨M23, e24, h⟩ := ob h
        refine bz_putI (pc := 60) X hM fp_RX3_19 (Or.inl rfl) e24 dX3_insert_60 (fun H locs hM => ?_)
        obtain rfl := so1 h
        exact bz_vret (pc := 63) X hM hr hlk dX3_insert_63 (Nat.le_of_ble_eq_true rfl) (Nat.le_of_ble_eq_true rfl)
      · have h := if_f hc h
        obtain rfl := so1 h
        exact bz_vret (pc := 24) X hM hr hlk dX3_insert_24 (Nat.le_of_ble_eq_true rfl) (Nat.le_of_ble_eq_true rfl)
theorem rX3_insert {M : Mm} {a0 : Nat} {a1 : Int32} {a2 : Int32} {r9 : Mm} (h : fX3_insert M a0 a1 a2 = some r9) : ∃ fs, M[a0]? = some (.inr (3, fs)) := by
  unfold fX3_insert at h
  obtain ⟨_, e1, _⟩ := ob h
  exact gC_spec e1
theorem ctX3_insert (l : Launch) {P : PT} {M : Mm} {a0 : Nat} {a1 : Int32} {a2 : Int32} {M9 : Mm} (h : fX3_insert M a0 a1 a2 = some M9) : Ct l yX3_insert cX3_insert 3 none 1 0 P [.ref (pB P + a0), .int a1, .int a2] M none M9 :=
  Ct.mk (by decide +kernel) (Nat.le_of_ble_eq_true rfl) (fun p e s m args below meth c hX => wX3_insert hX M a0 a1 a2 h)
set_option maxHeartbeats 4000000 in
set_option maxRecDepth 100000 in
theorem wjX7_layRing_35 {p : Program} {l : Launch} {e : Env} {s : State} {m : MethodId} {args : Array Value} {below : List Frame} {meth : Method} {c : Code} {P : PT} {N : Nat}  {M9 : Mm} (hX : Cy p s m args c meth cX7_layRing 5 RX7 "layRing" none P)   (M : Mm) (x0 : Nat) (x1 : Int32) (x2 : Int32) (x3 : Int32) (x4 : Int32)  (h : jX7_layRing_35 N M x0 x1 x2 x3 x4 = some M9) : Wq p l e s m args below meth c 2 0 none M9 5 P 0 35 [(0, .ref (pB P + x0)), (1, .int x1), (2, .int x2), (3, .int x3), (4, .int x4)] [] M := by
  unfold jX7_layRing_35 at h
  have hX0 := hX
  obtain ⟨X, hr, hlk, hnm⟩ := hX0
  have hx := X.1.1
  have hb := X.1.2.1
  intro H locs ls hM hl
  refine lv_aload_n (pc := 35) hx hb dX7_layRing_35 rfl (lv_at hl 0 rfl) ?_
  obtain ⟨q1, e2, h⟩ := ob h
  refine bz_getQ (pc := 36) X hM fl_RX7_14 e2 dX7_layRing_36 ?_
  refine lv_iload (pc := 39) hx hb dX7_layRing_39 (lv_at hl 4 rfl) ?_
  refine lv_iload_n (pc := 41) hx hb dX7_layRing_41 rfl (lv_at hl 1 rfl) ?_
  obtain ⟨M4, e3, h⟩ := ob h
  obtain ⟨fs5, hb6⟩ := (rX3_insert e3)
  refine bz_callV0 (pc := 42) (As := [.int x4, .int x1]) (rest := []) X hM hl.1 k_RX7_66 (ctX3_insert l e3) rfl hb6 rfl rfl ⟨(Nat.le_of_ble_eq_true rfl), (Nat.le_of_ble_eq_true rfl)⟩ (Nat.le_of_ble_eq_true rfl) ⟨(Nat.le_of_ble_eq_true rfl), (Nat.le_of_ble_eq_true rfl)⟩ dX7_layRing_42 (fun H locs hM => ?_)
  refine lv_aload_n (pc := 45) hx hb dX7_layRing_45 rfl (lv_at hl 0 rfl) ?_
  obtain ⟨q7, e8, h⟩ := ob h
  refine bz_getQ (pc := 46) X hM fl_RX7_20 e8 dX7_layRing_46 ?_
  refine lv_iload (pc := 49) hx hb dX7_layRing_49 (lv_at hl 4 rfl) ?_
  refine lv_iload_n (pc := 51) hx hb dX7_layRing_51 rfl (lv_at hl 2 rfl) ?_
  obtain ⟨M10, e9, h⟩ := ob h
  obtain ⟨fs11, hb12⟩ := (rX3_insert e9)
  refine bz_callV0 (pc := 52) (As := [.int x4, .int x2]) (rest := []) X hM hl.1 k_RX7_66 (ctX3_insert l e9) rfl hb12 rfl rfl ⟨(Nat.le_of_ble_eq_true rfl), (Nat.le_of_ble_eq_true rfl)⟩ (Nat.le_of_ble_eq_true rfl) ⟨(Nat.le_of_ble_eq_true rfl), (Nat.le_of_ble_eq_true rfl)⟩ dX7_layRing_52 (fun H locs hM => ?_)
  refine lv_aload_n (pc := 55) hx hb dX7_layRing_55 rfl (lv_at hl 0 rfl) ?_
  obtain ⟨q13, e14, h⟩ := ob h
  refine bz_getQ (pc := 56) X hM fl_RX7_23 e14 dX7_layRing_56 ?_
  refine lv_iload (pc := 59) hx hb dX7_layRing_59 (lv_at hl 4 rfl) ?_
  refine lv_iload_n (pc := 61) hx hb dX7_layRing_61 rfl (lv_at hl 3 rfl) ?_
  obtain ⟨M16, e15, h⟩ := ob h
  obtain ⟨fs17, hb18⟩ := (rX3_insert e15)
  refine bz_callV0 (pc := 62) (As := [.int x4, .int x3]) (rest := []) X hM hl.1 k_RX7_66 (ctX3_insert l e15) rfl hb18 rfl rfl ⟨(Nat.le_of_ble_eq_true rfl), (Nat.le_of_ble_eq_true rfl)⟩ (Nat.le_of_ble_eq_true rfl) ⟨(Nat.le_of_ble_eq_true rfl), (Nat.le_of_ble_eq_true rfl)⟩ dX7_layRing_62 (fun H locs hM => ?_)
  obtain rfl := so1 h
  exact bz_vret (pc := 65) X hM hr hlk dX7_layRing_65 (Nat.le_of_ble_eq_true rfl) (Nat.le_of_ble_eq_true rfl)
set_option maxHeartbeats 4000000 in
set_option maxRecDepth 100000 in
theorem wBX7_layRing_9 {p : Program} {l : Launch} {e : Env} {s : State} {m : MethodId} {args : Array Value} {below : List Frame} {meth : Method} {c : Code} {P : PT} {N : Nat} {K9 : Mm → Nat → Int32 → Int32 → Int32 → Int32 → Option (Mm)}  {M9 : Mm} (hX : Cy p s m args c meth cX7_layRing 5 RX7 "layRing" none P)  (hK9 : ∀ (M : Mm) (x0 : Nat) (x1 : Int32) (x2 : Int32) (x3 : Int32) (x4 : Int32), K9 M x0 x1 x2 x3 x4 = some M9 → Wq p l e s m args below meth c 2 0 none M9 5 P 0 9 [(0, .ref (pB P + x0)), (1, .int x1), (2, .int x2), (3, .int x3), (4, .int x4)] [] M) (M : Mm) (x0 : Nat) (x1 : Int32) (x2 : Int32) (x3 : Int32) (x4 : Int32)  (h : BX7_layRing_9 N K9 M x0 x1 x2 x3 x4 = some M9) : Wq p l e s m args below meth c 2 0 none M9 5 P 0 9 [(0, .ref (pB P + x0)), (1, .int x1), (2, .int x2), (3, .int x3), (4, .int x4)] [] M := by
  unfold BX7_layRing_9 at h
  have hX0 := hX
  obtain ⟨X, hr, hlk, hnm⟩ := hX0
  have hx := X.1.1
  have hb := X.1.2.1
  intro H locs ls hM hl
  refine lv_iload (pc := 9) hx hb dX7_layRing_9 (lv_at hl 4 rfl) ?_
  refine lv_if_le (pc := 11) (tgt := 35) hx hb dX7_layRing_11 (by decide) (fun hc => ?_) (fun hc => ?_)
  · have h := if_t hc h
    exact wjX7_layRing_35 hX _ _ _ _ _ _ h H locs ls hM (lv_sub hl [0, 1, 2, 3, 4] rfl)
  · have h := if_f hc h
    refine lv_aload_n (pc := 14) hx hb dX7_layRing_14 rfl (lv_at hl 0 rfl) ?_
    obtain ⟨q1, e2, h⟩ := ob h
    refine bz_getQ (pc := 15) X hM fl_RX7_20 e2 dX7_layRing_15 ?_
    refine lv_iload (pc := 18) hx hb dX7_layRing_18 (lv_at hl 4 rfl) ?_
    refine lv_iconst (pc := 20) (v := (1 : Int32)) hx hb dX7_layRing_20 (by decide) ?_
    refine lv_isub (pc := 21) hx hb dX7_layRing_21 ?_
    obtain ⟨v4, e3, h⟩ := ob h
    obtain ⟨fs5, hb6⟩ := (rX3_at e3)
    refine bz_callV1 (pc := 22) (As := [.int (x4 - (1 : Int32))]) (rest := []) X hM hl.1 k_RX7_49 (ctX3_at l e3) rfl hb6 rfl rfl ⟨(Nat.le_of_ble_eq_true rfl), (Nat.le_of_ble_eq_true rfl)⟩ (Nat.le_of_ble_eq_true rfl) ⟨(Nat.le_of_ble_eq_true rfl), (Nat.le_of_ble_eq_true rfl)⟩ dX7_layRing_22 (fun H locs hM => ?_)
    refine lv_iload_n (pc := 25) hx hb dX7_layRing_25 rfl (lv_at hl 2 rfl) ?_
    refine lv_icmp_le (pc := 26) (tgt := 35) hx hb dX7_layRing_26 (by decide) (fun hc => ?_) (fun hc => ?_)
    · have h := if_t hc h
      exact wjX7_layRing_35 hX _ _ _ _ _ _ h H locs ls hM (lv_sub hl [0, 1, 2, 3, 4] rfl)
    · have h := if_f hc h
      refine lv_iinc (pc := 29) (v := (x4 + (-1 : Int32))) (lv' := [(4, .int (x4 + (-1 : Int32))), (0, .ref (pB P + x0)), (1, .int x1), (2, .int x2), (3, .int x3)]) hx hb dX7_layRing_29 hl (k := 4) rfl rfl (by decide) rfl (fun ls hl => ?_)
      refine lv_goto (pc := 32) (tgt := 9) hx hb dX7_layRing_32 (by decide) ?_
      exact hK9 _ _ _ _ _ _ h H locs ls hM (lv_sub hl [1, 2, 3, 4, 0] rfl)
set_option maxHeartbeats 4000000 in
set_option maxRecDepth 100000 in
theorem wLX7_layRing_9 {p : Program} {l : Launch} {e : Env} {s : State} {m : MethodId} {args : Array Value} {below : List Frame} {meth : Method} {c : Code} {P : PT} {N : Nat}  {M9 : Mm} (hX : Cy p s m args c meth cX7_layRing 5 RX7 "layRing" none P)   : ∀ (n : Nat) (M : Mm) (x0 : Nat) (x1 : Int32) (x2 : Int32) (x3 : Int32) (x4 : Int32) , LX7_layRing_9 N n M x0 x1 x2 x3 x4 = some M9 → Wq p l e s m args below meth c 2 0 none M9 5 P 0 9 [(0, .ref (pB P + x0)), (1, .int x1), (2, .int x2), (3, .int x3), (4, .int x4)] [] M := by
  intro n
  induction n with
  | zero => intro M x0 x1 x2 x3 x4 h; cases h
  | succ n ih => intro M x0 x1 x2 x3 x4 h; exact wBX7_layRing_9 hX ih M x0 x1 x2 x3 x4 h
set_option maxHeartbeats 4000000 in
set_option maxRecDepth 100000 in
theorem wX7_layRing {p : Program} {l : Launch} {e : Env} {s : State} {m : MethodId} {args : Array Value} {below : List Frame} {meth : Method} {c : Code} {P : PT} {N : Nat}  {M9 : Mm} (hX : Cy p s m args c meth cX7_layRing 5 RX7 "layRing" none P)  (M : Mm) (a0 : Nat) (a1 : Int32) (a2 : Int32) (a3 : Int32) (h : fX7_layRing N M a0 a1 a2 a3 = some M9) : Wq p l e s m args below meth c 2 0 none M9 5 P 0 0 [(0, .ref (pB P + a0)), (1, .int a1), (2, .int a2), (3, .int a3)] [] M := by
  unfold fX7_layRing at h
  obtain ⟨_, _, h⟩ := ob h
  have hX0 := hX
  obtain ⟨X, hr, hlk, hnm⟩ := hX0
  have hx := X.1.1
  have hb := X.1.2.1
  intro H locs ls hM hl
  refine lv_aload_n (pc := 0) hx hb dX7_layRing_0 rfl (lv_at hl 0 rfl) ?_
  obtain ⟨q1, e2, h⟩ := ob h
  refine bz_getQ (pc := 1) X hM fl_RX7_20 e2 dX7_layRing_1 ?_
  obtain ⟨v4, e3, h⟩ := ob h
  obtain ⟨fs5, hb6⟩ := (rX3_size e3)
  refine bz_callV1 (pc := 4) (As := []) (rest := []) X hM hl.1 k_RX7_63 (ctX3_size l e3) rfl hb6 rfl rfl ⟨(Nat.le_of_ble_eq_true rfl), (Nat.le_of_ble_eq_true rfl)⟩ (Nat.le_of_ble_eq_true rfl) ⟨(Nat.le_of_ble_eq_true rfl), (Nat.le_of_ble_eq_true rfl)⟩ dX7_layRing_4 (fun H locs hM => ?_)
  refine lv_istore (pc := 7) (lv' := [(4, .int v4), (0, .ref (pB P + a0)), (1, .int a1), (2, .int a2), (3, .int a3)]) hx hb dX7_layRing_7 hl (by decide) rfl (fun ls hl => ?_)
  exact wLX7_layRing_9 hX _ _ _ _ _ _ _ h H locs ls hM (lv_sub hl [1, 2, 3, 4, 0] rfl)
theorem rX7_layRing {N : Nat} {M : Mm} {a0 : Nat} {a1 : Int32} {a2 : Int32} {a3 : Int32} {r9 : Mm} (h : fX7_layRing N M a0 a1 a2 a3 = some r9) : ∃ fs, M[a0]? = some (.inr (7, fs)) := by
  unfold fX7_layRing at h
  obtain ⟨_, e1, _⟩ := ob h
  exact gC_spec e1
theorem ctX7_layRing (l : Launch) {P : PT} {N : Nat} {M : Mm} {a0 : Nat} {a1 : Int32} {a2 : Int32} {a3 : Int32} {M9 : Mm} (h : fX7_layRing N M a0 a1 a2 a3 = some M9) : Ct l yX7_layRing cX7_layRing 5 none 2 0 P [.ref (pB P + a0), .int a1, .int a2, .int a3] M none M9 :=
  Ct.mk (by decide +kernel) (Nat.le_of_ble_eq_true rfl) (fun p e s m args below meth c hX => wX7_layRing hX M a0 a1 a2 a3 h)
set_option maxHeartbeats 4000000 in
set_option maxRecDepth 100000 in
theorem wBX7_lay_23 {p : Program} {l : Launch} {e : Env} {s : State} {m : MethodId} {args : Array Value} {below : List Frame} {meth : Method} {c : Code} {P : PT} {N : Nat} {K23 : Mm → Nat → Nat → Int32 → Int32 → Option (Mm)}  {M9 : Mm} (hX : Cy p s m args c meth cX7_lay 4 RX7 "lay" none P)  (hK23 : ∀ (M : Mm) (x0 : Nat) (x1 : Nat) (x2 : Int32) (x3 : Int32), K23 M x0 x1 x2 x3 = some M9 → Wq p l e s m args below meth c 3 0 none M9 4 P 0 23 [(0, .ref (pB P + x0)), (1, .ref (pB P + x1)), (2, .int x2), (3, .int x3)] [] M) (M : Mm) (x0 : Nat) (x1 : Nat) (x2 : Int32) (x3 : Int32)  (h : BX7_lay_23 N K23 M x0 x1 x2 x3 = some M9) : Wq p l e s m args below meth c 3 0 none M9 4 P 0 23 [(0, .ref (pB P + x0)), (1, .ref (pB P + x1)), (2, .int x2), (3, .int x3)] [] M := by
  unfold BX7_lay_23 at h
  have hX0 := hX
  obtain ⟨X, hr, hlk, hnm⟩ := hX0
  have hx := X.1.1
  have hb := X.1.2.1
  intro H locs ls hM hl
  refine lv_iload_n (pc := 23) hx hb dX7_lay_23 rfl (lv_at hl 3 rfl) ?_
  refine lv_aload_n (pc := 24) hx hb dX7_lay_24 rfl (lv_at hl 1 rfl) ?_
  obtain ⟨v2, e1, h⟩ := ob h
  obtain ⟨fs3, hb4⟩ := (rX6_rings e1)
  refine bz_callV1 (pc := 25) (As := []) (rest := [.int x3]) X hM hl.1 k_RX7_41 (ctX6_rings l e1) rfl hb4 rfl rfl ⟨(Nat.le_of_ble_eq_true rfl), (Nat.le_of_ble_eq_true rfl)⟩ (Nat.le_of_ble_eq_true rfl) ⟨(Nat.le_of_ble_eq_true rfl), (Nat.le_of_ble_eq_true rfl)⟩ dX7_lay_25 (fun H locs hM => ?_)
  refine lv_icmp_ge (pc := 28) (tgt := 67) hx hb dX7_lay_28 (by decide) (fun hc => ?_) (fun hc => ?_)
  · have h := if_t hc h
    obtain rfl := so1 h
    exact bz_vret (pc := 67) X hM hr hlk dX7_lay_67 (Nat.le_of_ble_eq_true rfl) (Nat.le_of_ble_eq_true rfl)
  · have h := if_f hc h
    refine lv_aload_n (pc := 31) hx hb dX7_lay_31 rfl (lv_at hl 1 rfl) ?_
    obtain ⟨q5, e6, h⟩ := ob h
    refine bz_getQ (pc := 32) X hM fl_RX7_46 e6 dX7_lay_32 ?_
    refine lv_iload_n (pc := 35) hx hb dX7_lay_35 rfl (lv_at hl 3 rfl) ?_
    obtain ⟨v8, e7, h⟩ := ob h
    obtain ⟨fs9, hb10⟩ := (rX3_at e7)
    refine bz_callV1 (pc := 36) (As := [.int x3]) (rest := []) X hM hl.1 k_RX7_49 (ctX3_at l e7) rfl hb10 rfl rfl ⟨(Nat.le_of_ble_eq_true rfl), (Nat.le_of_ble_eq_true rfl)⟩ (Nat.le_of_ble_eq_true rfl) ⟨(Nat.le_of_ble_eq_true rfl), (Nat.le_of_ble_eq_true rfl)⟩ dX7_lay_36 (fun H locs hM => ?_)
    refine lv_iload_n (pc := 39) hx hb dX7_lay_39 rfl (lv_at hl 2 rfl) ?_
    refine lv_icmp_ne (pc := 40) (tgt := 61) hx hb dX7_lay_40 (by decide) (fun hc => ?_) (fun hc => ?_)
    · have h := if_f hc h
      refine lv_iinc (pc := 61) (v := (x3 + (1 : Int32))) (lv' := [(3, .int (x3 + (1 : Int32))), (0, .ref (pB P + x0)), (1, .ref (pB P + x1)), (2, .int x2)]) hx hb dX7_lay_61 hl (k := 3) rfl rfl (by decide) rfl (fun ls hl => ?_)
      refine lv_goto (pc := 64) (tgt := 23) hx hb dX7_lay_64 (by decide) ?_
      exact hK23 _ _ _ _ _ h H locs ls hM (lv_sub hl [1, 2, 3, 0] rfl)
    · have h := if_t hc h
      refine lv_aload_n (pc := 43) hx hb dX7_lay_43 rfl (lv_at hl 0 rfl) ?_
      refine lv_iload_n (pc := 44) hx hb dX7_lay_44 rfl (lv_at hl 3 rfl) ?_
      refine lv_aload_n (pc := 45) hx hb dX7_lay_45 rfl (lv_at hl 1 rfl) ?_
      refine lv_iload_n (pc := 46) hx hb dX7_lay_46 rfl (lv_at hl 3 rfl) ?_
      obtain ⟨v12, e11, h⟩ := ob h
      obtain ⟨fs13, hb14⟩ := (rX6_shownAt e11)
      refine bz_callV1 (pc := 47) (As := [.int x3]) (rest := [.int x3, .ref (pB P + x0)]) X hM hl.1 k_RX7_53 (ctX6_shownAt l e11) rfl hb14 rfl rfl ⟨(Nat.le_of_ble_eq_true rfl), (Nat.le_of_ble_eq_true rfl)⟩ (Nat.le_of_ble_eq_true rfl) ⟨(Nat.le_of_ble_eq_true rfl), (Nat.le_of_ble_eq_true rfl)⟩ dX7_lay_47 (fun H locs hM => ?_)
      refine lv_aload_n (pc := 50) hx hb dX7_lay_50 rfl (lv_at hl 1 rfl) ?_
      obtain ⟨q15, e16, h⟩ := ob h
      refine bz_getQ (pc := 51) X hM fl_RX7_56 e16 dX7_lay_51 ?_
      refine lv_iload_n (pc := 54) hx hb dX7_lay_54 rfl (lv_at hl 3 rfl) ?_
      obtain ⟨v18, e17, h⟩ := ob h
      obtain ⟨fs19, hb20⟩ := (rX3_at e17)
      refine bz_callV1 (pc := 55) (As := [.int x3]) (rest := [.int v12, .int x3, .ref (pB P + x0)]) X hM hl.1 k_RX7_49 (ctX3_at l e17) rfl hb20 rfl rfl ⟨(Nat.le_of_ble_eq_true rfl), (Nat.le_of_ble_eq_true rfl)⟩ (Nat.le_of_ble_eq_true rfl) ⟨(Nat.le_of_ble_eq_true rfl), (Nat.le_of_ble_eq_true rfl)⟩ dX7_lay_55 (fun H locs hM => ?_)
      obtain ⟨M22, e21, h⟩ := ob h
      obtain ⟨fs23, hb24⟩ := (rX7_layRing e21)
      refine bz_callV0 (pc := 58) (As := [.int x3, .int v12, .int v18]) (rest := []) X hM hl.1 k_RX7_59 (ctX7_layRing l e21) rfl hb24 rfl rfl ⟨(Nat.le_of_ble_eq_true rfl), (Nat.le_of_ble_eq_true rfl)⟩ (Nat.le_of_ble_eq_true rfl) ⟨(Nat.le_of_ble_eq_true rfl), (Nat.le_of_ble_eq_true rfl)⟩ dX7_lay_58 (fun H locs hM => ?_)
      refine lv_iinc (pc := 61) (v := (x3 + (1 : Int32))) (lv' := [(3, .int (x3 + (1 : Int32))), (0, .ref (pB P + x0)), (1, .ref (pB P + x1)), (2, .int x2)]) hx hb dX7_lay_61 hl (k := 3) rfl rfl (by decide) rfl (fun ls hl => ?_)
      refine lv_goto (pc := 64) (tgt := 23) hx hb dX7_lay_64 (by decide) ?_
      exact hK23 _ _ _ _ _ h H locs ls hM (lv_sub hl [1, 2, 3, 0] rfl)
set_option maxHeartbeats 4000000 in
set_option maxRecDepth 100000 in
theorem wLX7_lay_23 {p : Program} {l : Launch} {e : Env} {s : State} {m : MethodId} {args : Array Value} {below : List Frame} {meth : Method} {c : Code} {P : PT} {N : Nat}  {M9 : Mm} (hX : Cy p s m args c meth cX7_lay 4 RX7 "lay" none P)   : ∀ (n : Nat) (M : Mm) (x0 : Nat) (x1 : Nat) (x2 : Int32) (x3 : Int32) , LX7_lay_23 N n M x0 x1 x2 x3 = some M9 → Wq p l e s m args below meth c 3 0 none M9 4 P 0 23 [(0, .ref (pB P + x0)), (1, .ref (pB P + x1)), (2, .int x2), (3, .int x3)] [] M := by
  intro n
  induction n with
  | zero => intro M x0 x1 x2 x3 h; cases h
  | succ n ih => intro M x0 x1 x2 x3 h; exact wBX7_lay_23 hX ih M x0 x1 x2 x3 h
set_option maxHeartbeats 4000000 in
set_option maxRecDepth 100000 in
theorem wX7_lay {p : Program} {l : Launch} {e : Env} {s : State} {m : MethodId} {args : Array Value} {below : List Frame} {meth : Method} {c : Code} {P : PT} {N : Nat}  {M9 : Mm} (hX : Cy p s m args c meth cX7_lay 4 RX7 "lay" none P)  (M : Mm) (a0 : Nat) (a1 : Nat) (a2 : Int32) (h : fX7_lay N M a0 a1 a2 = some M9) : Wq p l e s m args below meth c 3 0 none M9 4 P 0 0 [(0, .ref (pB P + a0)), (1, .ref (pB P + a1)), (2, .int a2)] [] M := by
  unfold fX7_lay at h
  obtain ⟨_, _, h⟩ := ob h
  have hX0 := hX
  obtain ⟨X, hr, hlk, hnm⟩ := hX0
  have hx := X.1.1
  have hb := X.1.2.1
  intro H locs ls hM hl
  refine lv_aload_n (pc := 0) hx hb dX7_lay_0 rfl (lv_at hl 0 rfl) ?_
  obtain ⟨q1, e2, h⟩ := ob h
  refine bz_getQ (pc := 1) X hM fl_RX7_14 e2 dX7_lay_1 ?_
  obtain ⟨M4, e3, h⟩ := ob h
  obtain ⟨fs5, hb6⟩ := (rX3_clear e3)
  refine bz_callV0 (pc := 4) (As := []) (rest := []) X hM hl.1 k_RX7_38 (ctX3_clear l e3) rfl hb6 rfl rfl ⟨(Nat.le_of_ble_eq_true rfl), (Nat.le_of_ble_eq_true rfl)⟩ (Nat.le_of_ble_eq_true rfl) ⟨(Nat.le_of_ble_eq_true rfl), (Nat.le_of_ble_eq_true rfl)⟩ dX7_lay_4 (fun H locs hM => ?_)
  refine lv_aload_n (pc := 7) hx hb dX7_lay_7 rfl (lv_at hl 0 rfl) ?_
  obtain ⟨q7, e8, h⟩ := ob h
  refine bz_getQ (pc := 8) X hM fl_RX7_20 e8 dX7_lay_8 ?_
  obtain ⟨M10, e9, h⟩ := ob h
  obtain ⟨fs11, hb12⟩ := (rX3_clear e9)
  refine bz_callV0 (pc := 11) (As := []) (rest := []) X hM hl.1 k_RX7_38 (ctX3_clear l e9) rfl hb12 rfl rfl ⟨(Nat.le_of_ble_eq_true rfl), (Nat.le_of_ble_eq_true rfl)⟩ (Nat.le_of_ble_eq_true rfl) ⟨(Nat.le_of_ble_eq_true rfl), (Nat.le_of_ble_eq_true rfl)⟩ dX7_lay_11 (fun H locs hM => ?_)
  refine lv_aload_n (pc := 14) hx hb dX7_lay_14 rfl (lv_at hl 0 rfl) ?_
  obtain ⟨q13, e14, h⟩ := ob h
  refine bz_getQ (pc := 15) X hM fl_RX7_23 e14 dX7_lay_15 ?_
  obtain ⟨M16, e15, h⟩ := ob h
  obtain ⟨fs17, hb18⟩ := (rX3_clear e15)
  refine bz_callV0 (pc := 18) (As := []) (rest := []) X hM hl.1 k_RX7_38 (ctX3_clear l e15) rfl hb18 rfl rfl ⟨(Nat.le_of_ble_eq_true rfl), (Nat.le_of_ble_eq_true rfl)⟩ (Nat.le_of_ble_eq_true rfl) ⟨(Nat.le_of_ble_eq_true rfl), (Nat.le_of_ble_eq_true rfl)⟩ dX7_lay_18 (fun H locs hM => ?_)
  refine lv_iconst (pc := 21) (v := (0 : Int32)) hx hb dX7_lay_21 (by decide) ?_
  refine lv_istore_n (pc := 22) (lv' := [(3, .int (0 : Int32)), (0, .ref (pB P + a0)), (1, .ref (pB P + a1)), (2, .int a2)]) hx hb dX7_lay_22 rfl hl (by decide) rfl (fun ls hl => ?_)
  exact wLX7_lay_23 hX _ _ _ _ _ _ h H locs ls hM (lv_sub hl [1, 2, 3, 0] rfl)
theorem rX7_lay {N : Nat} {M : Mm} {a0 : Nat} {a1 : Nat} {a2 : Int32} {r9 : Mm} (h : fX7_lay N M a0 a1 a2 = some r9) : ∃ fs, M[a0]? = some (.inr (7, fs)) := by
  unfold fX7_lay at h
  obtain ⟨_, e1, _⟩ := ob h
  exact gC_spec e1
theorem ctX7_lay (l : Launch) {P : PT} {N : Nat} {M : Mm} {a0 : Nat} {a1 : Nat} {a2 : Int32} {M9 : Mm} (h : fX7_lay N M a0 a1 a2 = some M9) : Ct l yX7_lay cX7_lay 4 none 3 0 P [.ref (pB P + a0), .ref (pB P + a1), .int a2] M none M9 :=
  Ct.mk (by decide +kernel) (Nat.le_of_ble_eq_true rfl) (fun p e s m args below meth c hX => wX7_lay hX M a0 a1 a2 h)
set_option maxHeartbeats 4000000 in
set_option maxRecDepth 100000 in
theorem wBX7_placeOf_2 {p : Program} {l : Launch} {e : Env} {s : State} {m : MethodId} {args : Array Value} {below : List Frame} {meth : Method} {c : Code} {P : PT} {N : Nat} {K2 : Mm → Nat → Int32 → Int32 → Option (Int32)}  {r9 : Int32} (hX : Cy p s m args c meth cX7_placeOf 3 RX7 "placeOf" (some .int) P)  (hK2 : ∀ (M : Mm) (x0 : Nat) (x1 : Int32) (x2 : Int32), K2 M x0 x1 x2 = some r9 → Wq p l e s m args below meth c 1 0 (some (.int r9)) M 3 P 0 2 [(0, .ref (pB P + x0)), (1, .int x1), (2, .int x2)] [] M) (M : Mm) (x0 : Nat) (x1 : Int32) (x2 : Int32)  (h : BX7_placeOf_2 N K2 M x0 x1 x2 = some r9) : Wq p l e s m args below meth c 1 0 (some (.int r9)) M 3 P 0 2 [(0, .ref (pB P + x0)), (1, .int x1), (2, .int x2)] [] M := by
  unfold BX7_placeOf_2 at h
  have hX0 := hX
  obtain ⟨X, hr, hlk, hnm⟩ := hX0
  have hx := X.1.1
  have hb := X.1.2.1
  intro H locs ls hM hl
  refine lv_iload_n (pc := 2) hx hb dX7_placeOf_2 rfl (lv_at hl 2 rfl) ?_
  refine lv_aload_n (pc := 3) hx hb dX7_placeOf_3 rfl (lv_at hl 0 rfl) ?_
  obtain ⟨q1, e2, h⟩ := ob h
  refine bz_getQ (pc := 4) X hM fl_RX7_14 e2 dX7_placeOf_4 ?_
  obtain ⟨v4, e3, h⟩ := ob h
  obtain ⟨fs5, hb6⟩ := (rX3_size e3)
  refine bz_callV1 (pc := 7) (As := []) (rest := [.int x2]) X hM hl.1 k_RX7_63 (ctX3_size l e3) rfl hb6 rfl rfl ⟨(Nat.le_of_ble_eq_true rfl), (Nat.le_of_ble_eq_true rfl)⟩ (Nat.le_of_ble_eq_true rfl) ⟨(Nat.le_of_ble_eq_true rfl), (Nat.le_of_ble_eq_true rfl)⟩ dX7_placeOf_7 (fun H locs hM => ?_)
  refine lv_icmp_ge (pc := 10) (tgt := 31) hx hb dX7_placeOf_10 (by decide) (fun hc => ?_) (fun hc => ?_)
  · have h := if_t hc h
    refine lv_iload_n (pc := 31) hx hb dX7_placeOf_31 rfl (lv_at hl 2 rfl) ?_
    obtain rfl := so1 h
    exact bz_iret (pc := 32) X hM hr hlk dX7_placeOf_32 (Nat.le_of_ble_eq_true rfl) (Nat.le_of_ble_eq_true rfl)
  · have h := if_f hc h
    refine lv_aload_n (pc := 13) hx hb dX7_placeOf_13 rfl (lv_at hl 0 rfl) ?_
    obtain ⟨q7, e8, h⟩ := ob h
    refine bz_getQ (pc := 14) X hM fl_RX7_14 e8 dX7_placeOf_14 ?_
    refine lv_iload_n (pc := 17) hx hb dX7_placeOf_17 rfl (lv_at hl 2 rfl) ?_
    obtain ⟨v10, e9, h⟩ := ob h
    obtain ⟨fs11, hb12⟩ := (rX3_at e9)
    refine bz_callV1 (pc := 18) (As := [.int x2]) (rest := []) X hM hl.1 k_RX7_49 (ctX3_at l e9) rfl hb12 rfl rfl ⟨(Nat.le_of_ble_eq_true rfl), (Nat.le_of_ble_eq_true rfl)⟩ (Nat.le_of_ble_eq_true rfl) ⟨(Nat.le_of_ble_eq_true rfl), (Nat.le_of_ble_eq_true rfl)⟩ dX7_placeOf_18 (fun H locs hM => ?_)
    refine lv_iload_n (pc := 21) hx hb dX7_placeOf_21 rfl (lv_at hl 1 rfl) ?_
    refine lv_icmp_eq (pc := 22) (tgt := 31) hx hb dX7_placeOf_22 (by decide) (fun hc => ?_) (fun hc => ?_)
    · have h := if_t hc h
      refine lv_iload_n (pc := 31) hx hb dX7_placeOf_31 rfl (lv_at hl 2 rfl) ?_
      obtain rfl := so1 h
      exact bz_iret (pc := 32) X hM hr hlk dX7_placeOf_32 (Nat.le_of_ble_eq_true rfl) (Nat.le_of_ble_eq_true rfl)
    · have h := if_f hc h
      refine lv_iinc (pc := 25) (v := (x2 + (1 : Int32))) (lv' := [(2, .int (x2 + (1 : Int32))), (0, .ref (pB P + x0)), (1, .int x1)]) hx hb dX7_placeOf_25 hl (k := 2) rfl rfl (by decide) rfl (fun ls hl => ?_)
      refine lv_goto (pc := 28) (tgt := 2) hx hb dX7_placeOf_28 (by decide) ?_
      exact hK2 _ _ _ _ h H locs ls hM (lv_sub hl [1, 2, 0] rfl)
set_option maxHeartbeats 4000000 in
set_option maxRecDepth 100000 in
theorem wLX7_placeOf_2 {p : Program} {l : Launch} {e : Env} {s : State} {m : MethodId} {args : Array Value} {below : List Frame} {meth : Method} {c : Code} {P : PT} {N : Nat}  {r9 : Int32} (hX : Cy p s m args c meth cX7_placeOf 3 RX7 "placeOf" (some .int) P)   : ∀ (n : Nat) (M : Mm) (x0 : Nat) (x1 : Int32) (x2 : Int32) , LX7_placeOf_2 N n M x0 x1 x2 = some r9 → Wq p l e s m args below meth c 1 0 (some (.int r9)) M 3 P 0 2 [(0, .ref (pB P + x0)), (1, .int x1), (2, .int x2)] [] M := by
  intro n
  induction n with
  | zero => intro M x0 x1 x2 h; cases h
  | succ n ih => intro M x0 x1 x2 h; exact wBX7_placeOf_2 hX ih M x0 x1 x2 h
set_option maxHeartbeats 4000000 in
set_option maxRecDepth 100000 in
theorem wX7_placeOf {p : Program} {l : Launch} {e : Env} {s : State} {m : MethodId} {args : Array Value} {below : List Frame} {meth : Method} {c : Code} {P : PT} {N : Nat}  {r9 : Int32} (hX : Cy p s m args c meth cX7_placeOf 3 RX7 "placeOf" (some .int) P)  (M : Mm) (a0 : Nat) (a1 : Int32) (h : fX7_placeOf N M a0 a1 = some r9) : Wq p l e s m args below meth c 1 0 (some (.int r9)) M 3 P 0 0 [(0, .ref (pB P + a0)), (1, .int a1)] [] M := by
  unfold fX7_placeOf at h
  obtain ⟨_, _, h⟩ := ob h
  have hX0 := hX
  obtain ⟨X, hr, hlk, hnm⟩ := hX0
  have hx := X.1.1
  have hb := X.1.2.1
  intro H locs ls hM hl
  refine lv_iconst (pc := 0) (v := (0 : Int32)) hx hb dX7_placeOf_0 (by decide) ?_
  refine lv_istore_n (pc := 1) (lv' := [(2, .int (0 : Int32)), (0, .ref (pB P + a0)), (1, .int a1)]) hx hb dX7_placeOf_1 rfl hl (by decide) rfl (fun ls hl => ?_)
  exact wLX7_placeOf_2 hX _ _ _ _ _ h H locs ls hM (lv_sub hl [1, 2, 0] rfl)
theorem rX7_placeOf {N : Nat} {M : Mm} {a0 : Nat} {a1 : Int32} {r9 : Int32} (h : fX7_placeOf N M a0 a1 = some r9) : ∃ fs, M[a0]? = some (.inr (7, fs)) := by
  unfold fX7_placeOf at h
  obtain ⟨_, e1, _⟩ := ob h
  exact gC_spec e1
theorem ctX7_placeOf (l : Launch) {P : PT} {N : Nat} {M : Mm} {a0 : Nat} {a1 : Int32} {r9 : Int32} (h : fX7_placeOf N M a0 a1 = some r9) : Ct l yX7_placeOf cX7_placeOf 3 (some .int) 1 0 P [.ref (pB P + a0), .int a1] M (some (.int r9)) M :=
  Ct.mk (by decide +kernel) (Nat.le_of_ble_eq_true rfl) (fun p e s m args below meth c hX => wX7_placeOf hX M a0 a1 h)
set_option maxHeartbeats 4000000 in
set_option maxRecDepth 100000 in
theorem wJ9_min_7cf53 {p : Program} {l : Launch} {e : Env} {s : State} {m : MethodId} {args : Array Value} {below : List Frame} {meth : Method} {c : Code} {P : PT}  {r9 : Int32} (hX : Cy p s m args c meth cJ9_min_7cf53 2 RJ9 "min" (some .int) P)  (M : Mm) (a0 : Int32) (a1 : Int32) (h : fJ9_min_7cf53 M a0 a1 = some r9) : Wq p l e s m args below meth c 0 0 (some (.int r9)) M 2 P 0 0 [(0, .int a0), (1, .int a1)] [] M := by
  unfold fJ9_min_7cf53 at h
  have hX0 := hX
  obtain ⟨X, hr, hlk, hnm⟩ := hX0
  have hx := X.1.1
  have hb := X.1.2.1
  intro H locs ls hM hl
  refine lv_iload_n (pc := 0) hx hb dJ9_min_7cf53_0 rfl (lv_at hl 0 rfl) ?_
  refine lv_iload_n (pc := 1) hx hb dJ9_min_7cf53_1 rfl (lv_at hl 1 rfl) ?_
  refine lv_icmp_gt (pc := 2) (tgt := 9) hx hb dJ9_min_7cf53_2 (by decide) (fun hc => ?_) (fun hc => ?_)
  · have h := if_t hc h
    refine lv_iload_n (pc := 9) hx hb dJ9_min_7cf53_9 rfl (lv_at hl 1 rfl) ?_
    obtain rfl := so1 h
    exact bz_iret (pc := 10) X hM hr hlk dJ9_min_7cf53_10 (Nat.le_of_ble_eq_true rfl) (Nat.le_of_ble_eq_true rfl)
  · have h := if_f hc h
    refine lv_iload_n (pc := 5) hx hb dJ9_min_7cf53_5 rfl (lv_at hl 0 rfl) ?_
    refine lv_goto (pc := 6) (tgt := 10) hx hb dJ9_min_7cf53_6 (by decide) ?_
    obtain rfl := so1 h
    exact bz_iret (pc := 10) X hM hr hlk dJ9_min_7cf53_10 (Nat.le_of_ble_eq_true rfl) (Nat.le_of_ble_eq_true rfl)
theorem ctJ9_min_7cf53 (l : Launch) {P : PT} {M : Mm} {a0 : Int32} {a1 : Int32} {r9 : Int32} (h : fJ9_min_7cf53 M a0 a1 = some r9) : Ct l yJ9_min_7cf53 cJ9_min_7cf53 2 (some .int) 0 0 P [.int a0, .int a1] M (some (.int r9)) M :=
  Ct.mk (by decide +kernel) (Nat.le_of_ble_eq_true rfl) (fun p e s m args below meth c hX => wJ9_min_7cf53 hX M a0 a1 h)
set_option maxHeartbeats 4000000 in
set_option maxRecDepth 100000 in
theorem wX7_gapAt {p : Program} {l : Launch} {e : Env} {s : State} {m : MethodId} {args : Array Value} {below : List Frame} {meth : Method} {c : Code} {P : PT}  {r9 : Int32} (hX : Cy p s m args c meth cX7_gapAt 2 RX7 "gapAt" (some .int) P)  (M : Mm) (a0 : Nat) (a1 : Int32) (h : fX7_gapAt M a0 a1 = some r9) : Wq p l e s m args below meth c 1 0 (some (.int r9)) M 2 P 0 0 [(0, .ref (pB P + a0)), (1, .int a1)] [] M := by
  unfold fX7_gapAt at h
  obtain ⟨_, _, h⟩ := ob h
  have hX0 := hX
  obtain ⟨X, hr, hlk, hnm⟩ := hX0
  have hx := X.1.1
  have hb := X.1.2.1
  intro H locs ls hM hl
  refine lv_iload_n (pc := 0) hx hb dX7_gapAt_0 rfl (lv_at hl 1 rfl) ?_
  refine lv_if_gt (pc := 1) (tgt := 10) hx hb dX7_gapAt_1 (by decide) (fun hc => ?_) (fun hc => ?_)
  · have h := if_t hc h
    refine lv_sipush (pc := 10) (v := (999 : Int32)) hx hb dX7_gapAt_10 (by decide) ?_
    refine lv_aload_n (pc := 13) hx hb dX7_gapAt_13 rfl (lv_at hl 0 rfl) ?_
    obtain ⟨q1, e2, h⟩ := ob h
    refine bz_getQ (pc := 14) X hM fl_RX7_20 e2 dX7_gapAt_14 ?_
    refine lv_iload_n (pc := 17) hx hb dX7_gapAt_17 rfl (lv_at hl 1 rfl) ?_
    obtain ⟨v4, e3, h⟩ := ob h
    obtain ⟨fs5, hb6⟩ := (rX3_at e3)
    refine bz_callV1 (pc := 18) (As := [.int a1]) (rest := [.int (999 : Int32)]) X hM hl.1 k_RX7_49 (ctX3_at l e3) rfl hb6 rfl rfl ⟨(Nat.le_of_ble_eq_true rfl), (Nat.le_of_ble_eq_true rfl)⟩ (Nat.le_of_ble_eq_true rfl) ⟨(Nat.le_of_ble_eq_true rfl), (Nat.le_of_ble_eq_true rfl)⟩ dX7_gapAt_18 (fun H locs hM => ?_)
    refine lv_aload_n (pc := 21) hx hb dX7_gapAt_21 rfl (lv_at hl 0 rfl) ?_
    obtain ⟨q7, e8, h⟩ := ob h
    refine bz_getQ (pc := 22) X hM fl_RX7_20 e8 dX7_gapAt_22 ?_
    refine lv_iload_n (pc := 25) hx hb dX7_gapAt_25 rfl (lv_at hl 1 rfl) ?_
    refine lv_iconst (pc := 26) (v := (1 : Int32)) hx hb dX7_gapAt_26 (by decide) ?_
    refine lv_isub (pc := 27) hx hb dX7_gapAt_27 ?_
    obtain ⟨v10, e9, h⟩ := ob h
    obtain ⟨fs11, hb12⟩ := (rX3_at e9)
    refine bz_callV1 (pc := 28) (As := [.int (a1 - (1 : Int32))]) (rest := [.int v4, .int (999 : Int32)]) X hM hl.1 k_RX7_49 (ctX3_at l e9) rfl hb12 rfl rfl ⟨(Nat.le_of_ble_eq_true rfl), (Nat.le_of_ble_eq_true rfl)⟩ (Nat.le_of_ble_eq_true rfl) ⟨(Nat.le_of_ble_eq_true rfl), (Nat.le_of_ble_eq_true rfl)⟩ dX7_gapAt_28 (fun H locs hM => ?_)
    refine lv_isub (pc := 31) hx hb dX7_gapAt_31 ?_
    obtain ⟨v14, e13, h⟩ := ob h
    refine bz_callS1 (pc := 32) (As := [.int (999 : Int32), .int (v4 - v10)]) (rest := []) X hM hl.1 k_RX7_100 (ctJ9_min_7cf53 l e13) rfl rfl ⟨(Nat.le_of_ble_eq_true rfl), (Nat.le_of_ble_eq_true rfl)⟩ (Nat.le_of_ble_eq_true rfl) ⟨(Nat.le_of_ble_eq_true rfl), (Nat.le_of_ble_eq_true rfl)⟩ dX7_gapAt_32 (fun H locs hM => ?_)
    obtain rfl := so1 h
    exact bz_iret (pc := 35) X hM hr hlk dX7_gapAt_35 (Nat.le_of_ble_eq_true rfl) (Nat.le_of_ble_eq_true rfl)
  · have h := if_f hc h
    refine lv_sipush (pc := 4) (v := (999 : Int32)) hx hb dX7_gapAt_4 (by decide) ?_
    refine lv_goto (pc := 7) (tgt := 35) hx hb dX7_gapAt_7 (by decide) ?_
    obtain rfl := so1 h
    exact bz_iret (pc := 35) X hM hr hlk dX7_gapAt_35 (Nat.le_of_ble_eq_true rfl) (Nat.le_of_ble_eq_true rfl)
theorem rX7_gapAt {M : Mm} {a0 : Nat} {a1 : Int32} {r9 : Int32} (h : fX7_gapAt M a0 a1 = some r9) : ∃ fs, M[a0]? = some (.inr (7, fs)) := by
  unfold fX7_gapAt at h
  obtain ⟨_, e1, _⟩ := ob h
  exact gC_spec e1
theorem ctX7_gapAt (l : Launch) {P : PT} {M : Mm} {a0 : Nat} {a1 : Int32} {r9 : Int32} (h : fX7_gapAt M a0 a1 = some r9) : Ct l yX7_gapAt cX7_gapAt 2 (some .int) 1 0 P [.ref (pB P + a0), .int a1] M (some (.int r9)) M :=
  Ct.mk (by decide +kernel) (Nat.le_of_ble_eq_true rfl) (fun p e s m args below meth c hX => wX7_gapAt hX M a0 a1 h)
set_option maxHeartbeats 4000000 in
set_option maxRecDepth 100000 in
theorem wjX10_ringOf_17 {p : Program} {l : Launch} {e : Env} {s : State} {m : MethodId} {args : Array Value} {below : List Frame} {meth : Method} {c : Code} {P : PT} {N : Nat}  {r9 : Int32} {M9 : Mm} (hX : Cy p s m args c meth cX10_ringOf 3 RX10 "ringOf" (some .int) P)   (M : Mm) (x0 : Nat)  (h : jX10_ringOf_17 N M x0 = some (r9, M9)) : Wq p l e s m args below meth c 4 0 (some (.int r9)) M9 3 P 0 17 [(0, .ref (pB P + x0))] [] M := by
  unfold jX10_ringOf_17 at h
  have hX0 := hX
  obtain ⟨X, hr, hlk, hnm⟩ := hX0
  have hx := X.1.1
  have hb := X.1.2.1
  intro H locs ls hM hl
  refine lv_aload_n (pc := 17) hx hb dX10_ringOf_17 rfl (lv_at hl 0 rfl) ?_
  refine lv_iconst (pc := 18) (v := (1 : Int32)) hx hb dX10_ringOf_18 (by decide) ?_
  obtain ⟨v2, M3, e1, h⟩ := ob2 h
  obtain ⟨fs4, hb5⟩ := (rX10_error e1)
  refine bz_callV1 (pc := 19) (As := [.int (1 : Int32)]) (rest := []) X hM hl.1 k_RX10_78 (ctX10_error l e1) rfl hb5 rfl rfl ⟨(Nat.le_of_ble_eq_true rfl), (Nat.le_of_ble_eq_true rfl)⟩ (Nat.le_of_ble_eq_true rfl) ⟨(Nat.le_of_ble_eq_true rfl), (Nat.le_of_ble_eq_true rfl)⟩ dX10_ringOf_19 (fun H locs hM => ?_)
  obtain ⟨rfl, rfl⟩ := so2 h
  exact bz_iret (pc := 22) X hM hr hlk dX10_ringOf_22 (Nat.le_of_ble_eq_true rfl) (Nat.le_of_ble_eq_true rfl)
set_option maxHeartbeats 4000000 in
set_option maxRecDepth 100000 in
theorem wX10_ringOf {p : Program} {l : Launch} {e : Env} {s : State} {m : MethodId} {args : Array Value} {below : List Frame} {meth : Method} {c : Code} {P : PT} {N : Nat}  {r9 : Int32} {M9 : Mm} (hX : Cy p s m args c meth cX10_ringOf 3 RX10 "ringOf" (some .int) P)  (M : Mm) (a0 : Nat) (a1 : Int32) (a2 : Int32) (h : fX10_ringOf N M a0 a1 a2 = some (r9, M9)) : Wq p l e s m args below meth c 4 0 (some (.int r9)) M9 3 P 0 0 [(0, .ref (pB P + a0)), (1, .int a1), (2, .int a2)] [] M := by
  unfold fX10_ringOf at h
  obtain ⟨_, _, h⟩ := ob h
  have hX0 := hX
  obtain ⟨X, hr, hlk, hnm⟩ := hX0
  have hx := X.1.1
  have hb := X.1.2.1
  intro H locs ls hM hl
  refine lv_aload_n (pc := 0) hx hb dX10_ringOf_0 rfl (lv_at hl 0 rfl) ?_
  refine lv_iload_n (pc := 1) hx hb dX10_ringOf_1 rfl (lv_at hl 1 rfl) ?_
  obtain ⟨v2, e1, h⟩ := ob h
  obtain ⟨fs3, hb4⟩ := (rX10_isRing e1)
  refine bz_callV1 (pc := 2) (As := [.int a1]) (rest := []) X hM hl.1 k_RX10_115 (ctX10_isRing l e1) rfl hb4 rfl rfl ⟨(Nat.le_of_ble_eq_true rfl), (Nat.le_of_ble_eq_true rfl)⟩ (Nat.le_of_ble_eq_true rfl) ⟨(Nat.le_of_ble_eq_true rfl), (Nat.le_of_ble_eq_true rfl)⟩ dX10_ringOf_2 (fun H locs hM => ?_)
  refine lv_if_eq (pc := 5) (tgt := 17) hx hb dX10_ringOf_5 (by decide) (fun hc => ?_) (fun hc => ?_)
  · have h := if_t hc h
    exact wjX10_ringOf_17 hX _ _ h H locs ls hM (lv_sub hl [0] rfl)
  · have h := if_f hc h
    refine lv_iload_n (pc := 8) hx hb dX10_ringOf_8 rfl (lv_at hl 2 rfl) ?_
    refine lv_iconst (pc := 9) (v := (0 : Int32)) hx hb dX10_ringOf_9 (by decide) ?_
    refine lv_iconst (pc := 10) (v := (4 : Int32)) hx hb dX10_ringOf_10 (by decide) ?_
    obtain ⟨v6, e5, h⟩ := ob h
    refine bz_callS1 (pc := 11) (As := [.int a2, .int (0 : Int32), .int (4 : Int32)]) (rest := []) X hM hl.1 k_RX10_74 (ctX10_within l e5) rfl rfl ⟨(Nat.le_of_ble_eq_true rfl), (Nat.le_of_ble_eq_true rfl)⟩ (Nat.le_of_ble_eq_true rfl) ⟨(Nat.le_of_ble_eq_true rfl), (Nat.le_of_ble_eq_true rfl)⟩ dX10_ringOf_11 (fun H locs hM => ?_)
    refine lv_if_ne (pc := 14) (tgt := 23) hx hb dX10_ringOf_14 (by decide) (fun hc => ?_) (fun hc => ?_)
    · have h := if_f hc h
      refine lv_iload_n (pc := 23) hx hb dX10_ringOf_23 rfl (lv_at hl 2 rfl) ?_
      by_cases hs0 : a2 = (0 : Int32)
      · have h := if_t hs0 h
        refine lv_tableIn (pc := 24) (off := 32) (tgt := 56) hx hb dX10_ringOf_24 (by rw [hs0]; decide) (by rw [hs0]; decide) (by rw [hs0]; rfl) (by decide) ?_
        refine lv_aload_n (pc := 56) hx hb dX10_ringOf_56 rfl (lv_at hl 0 rfl) ?_
        obtain ⟨q7, e8, h⟩ := ob h
        refine bz_getQ (pc := 57) X hM fl_RX10_10 e8 dX10_ringOf_57 ?_
        obtain ⟨q9, e10, h⟩ := ob h
        refine bz_getQ (pc := 60) X hM fl_RX10_118 e10 dX10_ringOf_60 ?_
        refine lv_iload_n (pc := 63) hx hb dX10_ringOf_63 rfl (lv_at hl 1 rfl) ?_
        obtain ⟨v12, e11, h⟩ := ob h
        obtain ⟨fs13, hb14⟩ := (rX3_at e11)
        refine bz_callV1 (pc := 64) (As := [.int a1]) (rest := []) X hM hl.1 k_RX10_121 (ctX3_at l e11) rfl hb14 rfl rfl ⟨(Nat.le_of_ble_eq_true rfl), (Nat.le_of_ble_eq_true rfl)⟩ (Nat.le_of_ble_eq_true rfl) ⟨(Nat.le_of_ble_eq_true rfl), (Nat.le_of_ble_eq_true rfl)⟩ dX10_ringOf_64 (fun H locs hM => ?_)
        obtain ⟨rfl, rfl⟩ := so2 h
        exact bz_iret (pc := 67) X hM hr hlk dX10_ringOf_67 (Nat.le_of_ble_eq_true rfl) (Nat.le_of_ble_eq_true rfl)
      have h := if_f hs0 h
      by_cases hs1 : a2 = (1 : Int32)
      · have h := if_t hs1 h
        refine lv_tableIn (pc := 24) (off := 44) (tgt := 68) hx hb dX10_ringOf_24 (by rw [hs1]; decide) (by rw [hs1]; decide) (by rw [hs1]; rfl) (by decide) ?_
        refine lv_aload_n (pc := 68) hx hb dX10_ringOf_68 rfl (lv_at hl 0 rfl) ?_
        obtain ⟨q15, e16, h⟩ := ob h
        refine bz_getQ (pc := 69) X hM fl_RX10_10 e16 dX10_ringOf_69 ?_
        obtain ⟨q17, e18, h⟩ := ob h
        refine bz_getQ (pc := 72) X hM fl_RX10_124 e18 dX10_ringOf_72 ?_
        refine lv_iload_n (pc := 75) hx hb dX10_ringOf_75 rfl (lv_at hl 1 rfl) ?_
        obtain ⟨v20, e19, h⟩ := ob h
        obtain ⟨fs21, hb22⟩ := (rX3_at e19)
        refine bz_callV1 (pc := 76) (As := [.int a1]) (rest := []) X hM hl.1 k_RX10_121 (ctX3_at l e19) rfl hb22 rfl rfl ⟨(Nat.le_of_ble_eq_true rfl), (Nat.le_of_ble_eq_true rfl)⟩ (Nat.le_of_ble_eq_true rfl) ⟨(Nat.le_of_ble_eq_true rfl), (Nat.le_of_ble_eq_true rfl)⟩ dX10_ringOf_76 (fun H locs hM => ?_)
        obtain ⟨rfl, rfl⟩ := so2 h
        exact bz_iret (pc := 79) X hM hr hlk dX10_ringOf_79 (Nat.le_of_ble_eq_true rfl) (Nat.le_of_ble_eq_true rfl)
      have h := if_f hs1 h
      by_cases hs2 : a2 = (2 : Int32)
      · have h := if_t hs2 h
        refine lv_tableIn (pc := 24) (off := 56) (tgt := 80) hx hb dX10_ringOf_24 (by rw [hs2]; decide) (by rw [hs2]; decide) (by rw [hs2]; rfl) (by decide) ?_
        refine lv_aload_n (pc := 80) hx hb dX10_ringOf_80 rfl (lv_at hl 0 rfl) ?_
        obtain ⟨q23, e24, h⟩ := ob h
        refine bz_getQ (pc := 81) X hM fl_RX10_10 e24 dX10_ringOf_81 ?_
        obtain ⟨q25, e26, h⟩ := ob h
        refine bz_getQ (pc := 84) X hM fl_RX10_127 e26 dX10_ringOf_84 ?_
        refine lv_iload_n (pc := 87) hx hb dX10_ringOf_87 rfl (lv_at hl 1 rfl) ?_
        obtain ⟨v28, e27, h⟩ := ob h
        obtain ⟨fs29, hb30⟩ := (rX3_at e27)
        refine bz_callV1 (pc := 88) (As := [.int a1]) (rest := []) X hM hl.1 k_RX10_121 (ctX3_at l e27) rfl hb30 rfl rfl ⟨(Nat.le_of_ble_eq_true rfl), (Nat.le_of_ble_eq_true rfl)⟩ (Nat.le_of_ble_eq_true rfl) ⟨(Nat.le_of_ble_eq_true rfl), (Nat.le_of_ble_eq_true rfl)⟩ dX10_ringOf_88 (fun H locs hM => ?_)
        obtain ⟨rfl, rfl⟩ := so2 h
        exact bz_iret (pc := 91) X hM hr hlk dX10_ringOf_91 (Nat.le_of_ble_eq_true rfl) (Nat.le_of_ble_eq_true rfl)
      have h := if_f hs2 h
      by_cases hs3 : a2 = (3 : Int32)
      · have h := if_t hs3 h
        refine lv_tableIn (pc := 24) (off := 68) (tgt := 92) hx hb dX10_ringOf_24 (by rw [hs3]; decide) (by rw [hs3]; decide) (by rw [hs3]; rfl) (by decide) ?_
        refine lv_aload_n (pc := 92) hx hb dX10_ringOf_92 rfl (lv_at hl 0 rfl) ?_
        obtain ⟨q31, e32, h⟩ := ob h
        refine bz_getQ (pc := 93) X hM fl_RX10_10 e32 dX10_ringOf_93 ?_
        refine lv_iload_n (pc := 96) hx hb dX10_ringOf_96 rfl (lv_at hl 1 rfl) ?_
        obtain ⟨v34, e33, h⟩ := ob h
        obtain ⟨fs35, hb36⟩ := (rX6_shownAt e33)
        refine bz_callV1 (pc := 97) (As := [.int a1]) (rest := []) X hM hl.1 k_RX10_130 (ctX6_shownAt l e33) rfl hb36 rfl rfl ⟨(Nat.le_of_ble_eq_true rfl), (Nat.le_of_ble_eq_true rfl)⟩ (Nat.le_of_ble_eq_true rfl) ⟨(Nat.le_of_ble_eq_true rfl), (Nat.le_of_ble_eq_true rfl)⟩ dX10_ringOf_97 (fun H locs hM => ?_)
        obtain ⟨rfl, rfl⟩ := so2 h
        exact bz_iret (pc := 100) X hM hr hlk dX10_ringOf_100 (Nat.le_of_ble_eq_true rfl) (Nat.le_of_ble_eq_true rfl)
      have h := if_f hs3 h
      have ho : (a2).toInt < 0 ∨ 3 < (a2).toInt := by
        have hs0 := lv_neT hs0 (a := 0) (by decide)
        have hs1 := lv_neT hs1 (a := 1) (by decide)
        have hs2 := lv_neT hs2 (a := 2) (by decide)
        have hs3 := lv_neT hs3 (a := 3) (by decide)
        omega
      refine lv_tableOut (pc := 24) (tgt := 101) hx hb dX10_ringOf_24 ho (by decide) ?_
      refine lv_aload_n (pc := 101) hx hb dX10_ringOf_101 rfl (lv_at hl 0 rfl) ?_
      obtain ⟨q37, e38, h⟩ := ob h
      refine bz_getQ (pc := 102) X hM fl_RX10_49 e38 dX10_ringOf_102 ?_
      refine lv_aload_n (pc := 105) hx hb dX10_ringOf_105 rfl (lv_at hl 0 rfl) ?_
      obtain ⟨q39, e40, h⟩ := ob h
      refine bz_getQ (pc := 106) X hM fl_RX10_10 e40 dX10_ringOf_106 ?_
      refine lv_aload_n (pc := 109) hx hb dX10_ringOf_109 rfl (lv_at hl 0 rfl) ?_
      obtain ⟨q41, e42, h⟩ := ob h
      refine bz_getQ (pc := 110) X hM fl_RX10_10 e42 dX10_ringOf_110 ?_
      obtain ⟨q43, e44, h⟩ := ob h
      refine bz_getQ (pc := 113) X hM fl_RX10_118 e44 dX10_ringOf_113 ?_
      refine lv_iload_n (pc := 116) hx hb dX10_ringOf_116 rfl (lv_at hl 1 rfl) ?_
      obtain ⟨v46, e45, h⟩ := ob h
      obtain ⟨fs47, hb48⟩ := (rX3_at e45)
      refine bz_callV1 (pc := 117) (As := [.int a1]) (rest := [.ref (pB P + q39), .ref (pB P + q37)]) X hM hl.1 k_RX10_121 (ctX3_at l e45) rfl hb48 rfl rfl ⟨(Nat.le_of_ble_eq_true rfl), (Nat.le_of_ble_eq_true rfl)⟩ (Nat.le_of_ble_eq_true rfl) ⟨(Nat.le_of_ble_eq_true rfl), (Nat.le_of_ble_eq_true rfl)⟩ dX10_ringOf_117 (fun H locs hM => ?_)
      obtain ⟨M50, e49, h⟩ := ob h
      obtain ⟨fs51, hb52⟩ := (rX7_lay e49)
      refine bz_callV0 (pc := 120) (As := [.ref (pB P + q39), .int v46]) (rest := []) X hM hl.1 k_RX10_133 (ctX7_lay l e49) rfl hb52 rfl rfl ⟨(Nat.le_of_ble_eq_true rfl), (Nat.le_of_ble_eq_true rfl)⟩ (Nat.le_of_ble_eq_true rfl) ⟨(Nat.le_of_ble_eq_true rfl), (Nat.le_of_ble_eq_true rfl)⟩ dX10_ringOf_120 (fun H locs hM => ?_)
      refine lv_aload_n (pc := 123) hx hb dX10_ringOf_123 rfl (lv_at hl 0 rfl) ?_
      obtain ⟨q53, e54, h⟩ := ob h
      refine bz_getQ (pc := 124) X hM fl_RX10_49 e54 dX10_ringOf_124 ?_
      refine lv_aload_n (pc := 127) hx hb dX10_ringOf_127 rfl (lv_at hl 0 rfl) ?_
      obtain ⟨q55, e56, h⟩ := ob h
      refine bz_getQ (pc := 128) X hM fl_RX10_49 e56 dX10_ringOf_128 ?_
      refine lv_iload_n (pc := 131) hx hb dX10_ringOf_131 rfl (lv_at hl 1 rfl) ?_
      obtain ⟨v58, e57, h⟩ := ob h
      obtain ⟨fs59, hb60⟩ := (rX7_placeOf e57)
      refine bz_callV1 (pc := 132) (As := [.int a1]) (rest := [.ref (pB P + q53)]) X hM hl.1 k_RX10_137 (ctX7_placeOf l e57) rfl hb60 rfl rfl ⟨(Nat.le_of_ble_eq_true rfl), (Nat.le_of_ble_eq_true rfl)⟩ (Nat.le_of_ble_eq_true rfl) ⟨(Nat.le_of_ble_eq_true rfl), (Nat.le_of_ble_eq_true rfl)⟩ dX10_ringOf_132 (fun H locs hM => ?_)
      obtain ⟨v62, e61, h⟩ := ob h
      obtain ⟨fs63, hb64⟩ := (rX7_gapAt e61)
      refine bz_callV1 (pc := 135) (As := [.int v58]) (rest := []) X hM hl.1 k_RX10_140 (ctX7_gapAt l e61) rfl hb64 rfl rfl ⟨(Nat.le_of_ble_eq_true rfl), (Nat.le_of_ble_eq_true rfl)⟩ (Nat.le_of_ble_eq_true rfl) ⟨(Nat.le_of_ble_eq_true rfl), (Nat.le_of_ble_eq_true rfl)⟩ dX10_ringOf_135 (fun H locs hM => ?_)
      obtain ⟨rfl, rfl⟩ := so2 h
      exact bz_iret (pc := 138) X hM hr hlk dX10_ringOf_138 (Nat.le_of_ble_eq_true rfl) (Nat.le_of_ble_eq_true rfl)
    · have h := if_t hc h
      exact wjX10_ringOf_17 hX _ _ h H locs ls hM (lv_sub hl [0] rfl)
theorem rX10_ringOf {N : Nat} {M : Mm} {a0 : Nat} {a1 : Int32} {a2 : Int32} {r9 : Int32 × Mm} (h : fX10_ringOf N M a0 a1 a2 = some r9) : ∃ fs, M[a0]? = some (.inr (10, fs)) := by
  unfold fX10_ringOf at h
  obtain ⟨_, e1, _⟩ := ob h
  exact gC_spec e1
theorem ctX10_ringOf (l : Launch) {P : PT} {N : Nat} {M : Mm} {a0 : Nat} {a1 : Int32} {a2 : Int32} {r9 : Int32} {M9 : Mm} (h : fX10_ringOf N M a0 a1 a2 = some (r9, M9)) : Ct l yX10_ringOf cX10_ringOf 3 (some .int) 4 0 P [.ref (pB P + a0), .int a1, .int a2] M (some (.int r9)) M9 :=
  Ct.mk (by decide +kernel) (Nat.le_of_ble_eq_true rfl) (fun p e s m args below meth c hX => wX10_ringOf hX M a0 a1 a2 h)
set_option maxHeartbeats 4000000 in
set_option maxRecDepth 100000 in
theorem wX11_isRing {p : Program} {l : Launch} {e : Env} {s : State} {m : MethodId} {args : Array Value} {below : List Frame} {meth : Method} {c : Code} {P : PT}  {r9 : Int32} (hX : Cy p s m args c meth cX11_isRing 2 RX11 "isRing" (some .boolean) P)  (M : Mm) (a0 : Nat) (a1 : Int32) (h : fX11_isRing M a0 a1 = some r9) : Wq p l e s m args below meth c 1 0 (some (.int r9)) M 2 P 0 0 [(0, .ref (pB P + a0)), (1, .int a1)] [] M := by
  unfold fX11_isRing at h
  obtain ⟨_, _, h⟩ := ob h
  have hX0 := hX
  obtain ⟨X, hr, hlk, hnm⟩ := hX0
  have hx := X.1.1
  have hb := X.1.2.1
  intro H locs ls hM hl
  refine lv_iload_n (pc := 0) hx hb dX11_isRing_0 rfl (lv_at hl 1 rfl) ?_
  refine lv_i2l (pc := 1) (v := ((a1).toInt64)) hx hb dX11_isRing_1 rfl ?_
  refine lv_lconst (pc := 2) (v := (0 : Int64)) hx hb dX11_isRing_2 (by decide) ?_
  refine lv_aload_n (pc := 3) hx hb dX11_isRing_3 rfl (lv_at hl 0 rfl) ?_
  obtain ⟨q1, e2, h⟩ := ob h
  refine bz_getQ (pc := 4) X hM fl_RX11_9 e2 dX11_isRing_4 ?_
  refine lv_iconst (pc := 7) (v := (1 : Int32)) hx hb dX11_isRing_7 (by decide) ?_
  obtain ⟨v3, e4, h⟩ := ob h
  refine bz_iald (pc := 8) X hM e4 dX11_isRing_8 ?_
  refine lv_iconst (pc := 9) (v := (1 : Int32)) hx hb dX11_isRing_9 (by decide) ?_
  refine lv_isub (pc := 10) hx hb dX11_isRing_10 ?_
  refine lv_i2l (pc := 11) (v := (((v3 - (1 : Int32))).toInt64)) hx hb dX11_isRing_11 rfl ?_
  obtain ⟨v6, e5, h⟩ := ob h
  refine bz_callS1 (pc := 12) (As := [.long ((a1).toInt64), .long (0 : Int64), .long (((v3 - (1 : Int32))).toInt64)]) (rest := []) X hM hl.1 k_RX11_57 (ctX11_in l e5) rfl rfl ⟨(Nat.le_of_ble_eq_true rfl), (Nat.le_of_ble_eq_true rfl)⟩ (Nat.le_of_ble_eq_true rfl) ⟨(Nat.le_of_ble_eq_true rfl), (Nat.le_of_ble_eq_true rfl)⟩ dX11_isRing_12 (fun H locs hM => ?_)
  obtain ⟨v7, e8, h⟩ := ob h
  obtain rfl := so1 h
  exact bz_zretz (pc := 15) X hM hr hlk e8 dX11_isRing_15 (Nat.le_of_ble_eq_true rfl) (Nat.le_of_ble_eq_true rfl)
theorem rX11_isRing {M : Mm} {a0 : Nat} {a1 : Int32} {r9 : Int32} (h : fX11_isRing M a0 a1 = some r9) : ∃ fs, M[a0]? = some (.inr (11, fs)) := by
  unfold fX11_isRing at h
  obtain ⟨_, e1, _⟩ := ob h
  exact gC_spec e1
theorem ctX11_isRing (l : Launch) {P : PT} {M : Mm} {a0 : Nat} {a1 : Int32} {r9 : Int32} (h : fX11_isRing M a0 a1 = some r9) : Ct l yX11_isRing cX11_isRing 2 (some .boolean) 1 0 P [.ref (pB P + a0), .int a1] M (some (.int r9)) M :=
  Ct.mk (by decide +kernel) (Nat.le_of_ble_eq_true rfl) (fun p e s m args below meth c hX => wX11_isRing hX M a0 a1 h)
set_option maxHeartbeats 4000000 in
set_option maxRecDepth 100000 in
theorem wX11_ring {p : Program} {l : Launch} {e : Env} {s : State} {m : MethodId} {args : Array Value} {below : List Frame} {meth : Method} {c : Code} {P : PT}  {r9 : Int32} (hX : Cy p s m args c meth cX11_ring 3 RX11 "ring" (some .int) P)  (M : Mm) (a0 : Nat) (a1 : Int32) (a2 : Int32) (h : fX11_ring M a0 a1 a2 = some r9) : Wq p l e s m args below meth c 0 0 (some (.int r9)) M 3 P 0 0 [(0, .ref (pB P + a0)), (1, .int a1), (2, .int a2)] [] M := by
  unfold fX11_ring at h
  obtain ⟨_, _, h⟩ := ob h
  have hX0 := hX
  obtain ⟨X, hr, hlk, hnm⟩ := hX0
  have hx := X.1.1
  have hb := X.1.2.1
  intro H locs ls hM hl
  refine lv_aload_n (pc := 0) hx hb dX11_ring_0 rfl (lv_at hl 0 rfl) ?_
  obtain ⟨q1, e2, h⟩ := ob h
  refine bz_getQ (pc := 1) X hM fl_RX11_9 e2 dX11_ring_1 ?_
  refine lv_bipush (pc := 4) (v := (18 : Int32)) hx hb dX11_ring_4 (by decide) ?_
  refine lv_iconst (pc := 6) (v := (3 : Int32)) hx hb dX11_ring_6 (by decide) ?_
  refine lv_iload_n (pc := 7) hx hb dX11_ring_7 rfl (lv_at hl 1 rfl) ?_
  refine lv_imul (pc := 8) hx hb dX11_ring_8 ?_
  refine lv_iadd (pc := 9) hx hb dX11_ring_9 ?_
  refine lv_iload_n (pc := 10) hx hb dX11_ring_10 rfl (lv_at hl 2 rfl) ?_
  refine lv_iadd (pc := 11) hx hb dX11_ring_11 ?_
  obtain ⟨v3, e4, h⟩ := ob h
  refine bz_iald (pc := 12) X hM e4 dX11_ring_12 ?_
  obtain rfl := so1 h
  exact bz_iret (pc := 13) X hM hr hlk dX11_ring_13 (Nat.le_of_ble_eq_true rfl) (Nat.le_of_ble_eq_true rfl)
theorem rX11_ring {M : Mm} {a0 : Nat} {a1 : Int32} {a2 : Int32} {r9 : Int32} (h : fX11_ring M a0 a1 a2 = some r9) : ∃ fs, M[a0]? = some (.inr (11, fs)) := by
  unfold fX11_ring at h
  obtain ⟨_, e1, _⟩ := ob h
  exact gC_spec e1
theorem ctX11_ring (l : Launch) {P : PT} {M : Mm} {a0 : Nat} {a1 : Int32} {a2 : Int32} {r9 : Int32} (h : fX11_ring M a0 a1 a2 = some r9) : Ct l yX11_ring cX11_ring 3 (some .int) 0 0 P [.ref (pB P + a0), .int a1, .int a2] M (some (.int r9)) M :=
  Ct.mk (by decide +kernel) (Nat.le_of_ble_eq_true rfl) (fun p e s m args below meth c hX => wX11_ring hX M a0 a1 a2 h)
set_option maxHeartbeats 4000000 in
set_option maxRecDepth 100000 in
theorem wX11_clockOf {p : Program} {l : Launch} {e : Env} {s : State} {m : MethodId} {args : Array Value} {below : List Frame} {meth : Method} {c : Code} {P : PT}  {r9 : Int32} (hX : Cy p s m args c meth cX11_clockOf 2 RX11 "clockOf" (some .int) P)  (M : Mm) (a0 : Nat) (a1 : Int32) (h : fX11_clockOf M a0 a1 = some r9) : Wq p l e s m args below meth c 0 0 (some (.int r9)) M 2 P 0 0 [(0, .ref (pB P + a0)), (1, .int a1)] [] M := by
  unfold fX11_clockOf at h
  obtain ⟨_, _, h⟩ := ob h
  have hX0 := hX
  obtain ⟨X, hr, hlk, hnm⟩ := hX0
  have hx := X.1.1
  have hb := X.1.2.1
  intro H locs ls hM hl
  refine lv_aload_n (pc := 0) hx hb dX11_clockOf_0 rfl (lv_at hl 0 rfl) ?_
  obtain ⟨q1, e2, h⟩ := ob h
  refine bz_getQ (pc := 1) X hM fl_RX11_9 e2 dX11_clockOf_1 ?_
  refine lv_bipush (pc := 4) (v := (9 : Int32)) hx hb dX11_clockOf_4 (by decide) ?_
  refine lv_aload_n (pc := 6) hx hb dX11_clockOf_6 rfl (lv_at hl 0 rfl) ?_
  obtain ⟨q3, e4, h⟩ := ob h
  refine bz_getQ (pc := 7) X hM fl_RX11_9 e4 dX11_clockOf_7 ?_
  refine lv_bipush (pc := 10) (v := (12 : Int32)) hx hb dX11_clockOf_10 (by decide) ?_
  refine lv_iload_n (pc := 12) hx hb dX11_clockOf_12 rfl (lv_at hl 1 rfl) ?_
  refine lv_iadd (pc := 13) hx hb dX11_clockOf_13 ?_
  obtain ⟨v5, e6, h⟩ := ob h
  refine bz_iald (pc := 14) X hM e6 dX11_clockOf_14 ?_
  refine lv_iadd (pc := 15) hx hb dX11_clockOf_15 ?_
  obtain ⟨v7, e8, h⟩ := ob h
  refine bz_iald (pc := 16) X hM e8 dX11_clockOf_16 ?_
  obtain rfl := so1 h
  exact bz_iret (pc := 17) X hM hr hlk dX11_clockOf_17 (Nat.le_of_ble_eq_true rfl) (Nat.le_of_ble_eq_true rfl)
theorem rX11_clockOf {M : Mm} {a0 : Nat} {a1 : Int32} {r9 : Int32} (h : fX11_clockOf M a0 a1 = some r9) : ∃ fs, M[a0]? = some (.inr (11, fs)) := by
  unfold fX11_clockOf at h
  obtain ⟨_, e1, _⟩ := ob h
  exact gC_spec e1
theorem ctX11_clockOf (l : Launch) {P : PT} {M : Mm} {a0 : Nat} {a1 : Int32} {r9 : Int32} (h : fX11_clockOf M a0 a1 = some r9) : Ct l yX11_clockOf cX11_clockOf 2 (some .int) 0 0 P [.ref (pB P + a0), .int a1] M (some (.int r9)) M :=
  Ct.mk (by decide +kernel) (Nat.le_of_ble_eq_true rfl) (fun p e s m args below meth c hX => wX11_clockOf hX M a0 a1 h)
set_option maxHeartbeats 4000000 in
set_option maxRecDepth 100000 in
theorem wX11_shownOf {p : Program} {l : Launch} {e : Env} {s : State} {m : MethodId} {args : Array Value} {below : List Frame} {meth : Method} {c : Code} {P : PT}  {r9 : Int32} (hX : Cy p s m args c meth cX11_shownOf 2 RX11 "shownOf" (some .int) P)  (M : Mm) (a0 : Nat) (a1 : Int32) (h : fX11_shownOf M a0 a1 = some r9) : Wq p l e s m args below meth c 1 0 (some (.int r9)) M 2 P 0 0 [(0, .ref (pB P + a0)), (1, .int a1)] [] M := by
  unfold fX11_shownOf at h
  obtain ⟨_, _, h⟩ := ob h
  have hX0 := hX
  obtain ⟨X, hr, hlk, hnm⟩ := hX0
  have hx := X.1.1
  have hb := X.1.2.1
  intro H locs ls hM hl
  refine lv_aload_n (pc := 0) hx hb dX11_shownOf_0 rfl (lv_at hl 0 rfl) ?_
  refine lv_iload_n (pc := 1) hx hb dX11_shownOf_1 rfl (lv_at hl 1 rfl) ?_
  refine lv_iconst (pc := 2) (v := (1 : Int32)) hx hb dX11_shownOf_2 (by decide) ?_
  obtain ⟨v2, e1, h⟩ := ob h
  obtain ⟨fs3, hb4⟩ := (rX11_ring e1)
  refine bz_callV1 (pc := 3) (As := [.int a1, .int (1 : Int32)]) (rest := []) X hM hl.1 k_RX11_87 (ctX11_ring l e1) rfl hb4 rfl rfl ⟨(Nat.le_of_ble_eq_true rfl), (Nat.le_of_ble_eq_true rfl)⟩ (Nat.le_of_ble_eq_true rfl) ⟨(Nat.le_of_ble_eq_true rfl), (Nat.le_of_ble_eq_true rfl)⟩ dX11_shownOf_3 (fun H locs hM => ?_)
  refine lv_aload_n (pc := 6) hx hb dX11_shownOf_6 rfl (lv_at hl 0 rfl) ?_
  refine lv_aload_n (pc := 7) hx hb dX11_shownOf_7 rfl (lv_at hl 0 rfl) ?_
  refine lv_iload_n (pc := 8) hx hb dX11_shownOf_8 rfl (lv_at hl 1 rfl) ?_
  refine lv_iconst (pc := 9) (v := (0 : Int32)) hx hb dX11_shownOf_9 (by decide) ?_
  obtain ⟨v6, e5, h⟩ := ob h
  obtain ⟨fs7, hb8⟩ := (rX11_ring e5)
  refine bz_callV1 (pc := 10) (As := [.int a1, .int (0 : Int32)]) (rest := [.ref (pB P + a0), .int v2]) X hM hl.1 k_RX11_87 (ctX11_ring l e5) rfl hb8 rfl rfl ⟨(Nat.le_of_ble_eq_true rfl), (Nat.le_of_ble_eq_true rfl)⟩ (Nat.le_of_ble_eq_true rfl) ⟨(Nat.le_of_ble_eq_true rfl), (Nat.le_of_ble_eq_true rfl)⟩ dX11_shownOf_10 (fun H locs hM => ?_)
  obtain ⟨v10, e9, h⟩ := ob h
  obtain ⟨fs11, hb12⟩ := (rX11_clockOf e9)
  refine bz_callV1 (pc := 13) (As := [.int v6]) (rest := [.int v2]) X hM hl.1 k_RX11_91 (ctX11_clockOf l e9) rfl hb12 rfl rfl ⟨(Nat.le_of_ble_eq_true rfl), (Nat.le_of_ble_eq_true rfl)⟩ (Nat.le_of_ble_eq_true rfl) ⟨(Nat.le_of_ble_eq_true rfl), (Nat.le_of_ble_eq_true rfl)⟩ dX11_shownOf_13 (fun H locs hM => ?_)
  refine lv_iadd (pc := 16) hx hb dX11_shownOf_16 ?_
  obtain rfl := so1 h
  exact bz_iret (pc := 17) X hM hr hlk dX11_shownOf_17 (Nat.le_of_ble_eq_true rfl) (Nat.le_of_ble_eq_true rfl)
theorem rX11_shownOf {M : Mm} {a0 : Nat} {a1 : Int32} {r9 : Int32} (h : fX11_shownOf M a0 a1 = some r9) : ∃ fs, M[a0]? = some (.inr (11, fs)) := by
  unfold fX11_shownOf at h
  obtain ⟨_, e1, _⟩ := ob h
  exact gC_spec e1
theorem ctX11_shownOf (l : Launch) {P : PT} {M : Mm} {a0 : Nat} {a1 : Int32} {r9 : Int32} (h : fX11_shownOf M a0 a1 = some r9) : Ct l yX11_shownOf cX11_shownOf 2 (some .int) 1 0 P [.ref (pB P + a0), .int a1] M (some (.int r9)) M :=
  Ct.mk (by decide +kernel) (Nat.le_of_ble_eq_true rfl) (fun p e s m args below meth c hX => wX11_shownOf hX M a0 a1 h)
set_option maxHeartbeats 4000000 in
set_option maxRecDepth 100000 in
theorem wX11_isAhead {p : Program} {l : Launch} {e : Env} {s : State} {m : MethodId} {args : Array Value} {below : List Frame} {meth : Method} {c : Code} {P : PT}  {r9 : Int32} (hX : Cy p s m args c meth cX11_isAhead 3 RX11 "isAhead" (some .boolean) P)  (M : Mm) (a0 : Nat) (a1 : Int32) (a2 : Int32) (h : fX11_isAhead M a0 a1 a2 = some r9) : Wq p l e s m args below meth c 1 0 (some (.int r9)) M 3 P 0 0 [(0, .ref (pB P + a0)), (1, .int a1), (2, .int a2)] [] M := by
  unfold fX11_isAhead at h
  obtain ⟨_, _, h⟩ := ob h
  have hX0 := hX
  obtain ⟨X, hr, hlk, hnm⟩ := hX0
  have hx := X.1.1
  have hb := X.1.2.1
  intro H locs ls hM hl
  refine lv_aload_n (pc := 0) hx hb dX11_isAhead_0 rfl (lv_at hl 0 rfl) ?_
  refine lv_iload_n (pc := 1) hx hb dX11_isAhead_1 rfl (lv_at hl 1 rfl) ?_
  refine lv_iconst (pc := 2) (v := (1 : Int32)) hx hb dX11_isAhead_2 (by decide) ?_
  obtain ⟨v2, e1, h⟩ := ob h
  obtain ⟨fs3, hb4⟩ := (rX11_ring e1)
  refine bz_callV1 (pc := 3) (As := [.int a1, .int (1 : Int32)]) (rest := []) X hM hl.1 k_RX11_87 (ctX11_ring l e1) rfl hb4 rfl rfl ⟨(Nat.le_of_ble_eq_true rfl), (Nat.le_of_ble_eq_true rfl)⟩ (Nat.le_of_ble_eq_true rfl) ⟨(Nat.le_of_ble_eq_true rfl), (Nat.le_of_ble_eq_true rfl)⟩ dX11_isAhead_3 (fun H locs hM => ?_)
  refine lv_aload_n (pc := 6) hx hb dX11_isAhead_6 rfl (lv_at hl 0 rfl) ?_
  refine lv_iload_n (pc := 7) hx hb dX11_isAhead_7 rfl (lv_at hl 2 rfl) ?_
  refine lv_iconst (pc := 8) (v := (1 : Int32)) hx hb dX11_isAhead_8 (by decide) ?_
  obtain ⟨v6, e5, h⟩ := ob h
  obtain ⟨fs7, hb8⟩ := (rX11_ring e5)
  refine bz_callV1 (pc := 9) (As := [.int a2, .int (1 : Int32)]) (rest := [.int v2]) X hM hl.1 k_RX11_87 (ctX11_ring l e5) rfl hb8 rfl rfl ⟨(Nat.le_of_ble_eq_true rfl), (Nat.le_of_ble_eq_true rfl)⟩ (Nat.le_of_ble_eq_true rfl) ⟨(Nat.le_of_ble_eq_true rfl), (Nat.le_of_ble_eq_true rfl)⟩ dX11_isAhead_9 (fun H locs hM => ?_)
  refine lv_icmp_lt (pc := 12) (tgt := 35) hx hb dX11_isAhead_12 (by decide) (fun hc => ?_) (fun hc => ?_)
  · have h := if_t hc h
    refine lv_iconst (pc := 35) (v := (1 : Int32)) hx hb dX11_isAhead_35 (by decide) ?_
    refine lv_goto (pc := 36) (tgt := 40) hx hb dX11_isAhead_36 (by decide) ?_
    obtain rfl := so1 h
    exact bz_zret (pc := 40) X hM hr hlk (by decide) dX11_isAhead_40 (Nat.le_of_ble_eq_true rfl) (Nat.le_of_ble_eq_true rfl)
  · have h := if_f hc h
    refine lv_aload_n (pc := 15) hx hb dX11_isAhead_15 rfl (lv_at hl 0 rfl) ?_
    refine lv_iload_n (pc := 16) hx hb dX11_isAhead_16 rfl (lv_at hl 1 rfl) ?_
    refine lv_iconst (pc := 17) (v := (1 : Int32)) hx hb dX11_isAhead_17 (by decide) ?_
    obtain ⟨v10, e9, h⟩ := ob h
    obtain ⟨fs11, hb12⟩ := (rX11_ring e9)
    refine bz_callV1 (pc := 18) (As := [.int a1, .int (1 : Int32)]) (rest := []) X hM hl.1 k_RX11_87 (ctX11_ring l e9) rfl hb12 rfl rfl ⟨(Nat.le_of_ble_eq_true rfl), (Nat.le_of_ble_eq_true rfl)⟩ (Nat.le_of_ble_eq_true rfl) ⟨(Nat.le_of_ble_eq_true rfl), (Nat.le_of_ble_eq_true rfl)⟩ dX11_isAhead_18 (fun H locs hM => ?_)
    refine lv_aload_n (pc := 21) hx hb dX11_isAhead_21 rfl (lv_at hl 0 rfl) ?_
    refine lv_iload_n (pc := 22) hx hb dX11_isAhead_22 rfl (lv_at hl 2 rfl) ?_
    refine lv_iconst (pc := 23) (v := (1 : Int32)) hx hb dX11_isAhead_23 (by decide) ?_
    obtain ⟨v14, e13, h⟩ := ob h
    obtain ⟨fs15, hb16⟩ := (rX11_ring e13)
    refine bz_callV1 (pc := 24) (As := [.int a2, .int (1 : Int32)]) (rest := [.int v10]) X hM hl.1 k_RX11_87 (ctX11_ring l e13) rfl hb16 rfl rfl ⟨(Nat.le_of_ble_eq_true rfl), (Nat.le_of_ble_eq_true rfl)⟩ (Nat.le_of_ble_eq_true rfl) ⟨(Nat.le_of_ble_eq_true rfl), (Nat.le_of_ble_eq_true rfl)⟩ dX11_isAhead_24 (fun H locs hM => ?_)
    refine lv_icmp_ne (pc := 27) (tgt := 39) hx hb dX11_isAhead_27 (by decide) (fun hc => ?_) (fun hc => ?_)
    · have h := if_f hc h
      refine lv_iconst (pc := 39) (v := (0 : Int32)) hx hb dX11_isAhead_39 (by decide) ?_
      obtain rfl := so1 h
      exact bz_zret (pc := 40) X hM hr hlk (by decide) dX11_isAhead_40 (Nat.le_of_ble_eq_true rfl) (Nat.le_of_ble_eq_true rfl)
    · have h := if_t hc h
      refine lv_iload_n (pc := 30) hx hb dX11_isAhead_30 rfl (lv_at hl 1 rfl) ?_
      refine lv_iload_n (pc := 31) hx hb dX11_isAhead_31 rfl (lv_at hl 2 rfl) ?_
      refine lv_icmp_ge (pc := 32) (tgt := 39) hx hb dX11_isAhead_32 (by decide) (fun hc => ?_) (fun hc => ?_)
      · have h := if_t hc h
        refine lv_iconst (pc := 39) (v := (0 : Int32)) hx hb dX11_isAhead_39 (by decide) ?_
        obtain rfl := so1 h
        exact bz_zret (pc := 40) X hM hr hlk (by decide) dX11_isAhead_40 (Nat.le_of_ble_eq_true rfl) (Nat.le_of_ble_eq_true rfl)
      · have h := if_f hc h
        refine lv_iconst (pc := 35) (v := (1 : Int32)) hx hb dX11_isAhead_35 (by decide) ?_
        refine lv_goto (pc := 36) (tgt := 40) hx hb dX11_isAhead_36 (by decide) ?_
        obtain rfl := so1 h
        exact bz_zret (pc := 40) X hM hr hlk (by decide) dX11_isAhead_40 (Nat.le_of_ble_eq_true rfl) (Nat.le_of_ble_eq_true rfl)
theorem rX11_isAhead {M : Mm} {a0 : Nat} {a1 : Int32} {a2 : Int32} {r9 : Int32} (h : fX11_isAhead M a0 a1 a2 = some r9) : ∃ fs, M[a0]? = some (.inr (11, fs)) := by
  unfold fX11_isAhead at h
  obtain ⟨_, e1, _⟩ := ob h
  exact gC_spec e1
theorem ctX11_isAhead (l : Launch) {P : PT} {M : Mm} {a0 : Nat} {a1 : Int32} {a2 : Int32} {r9 : Int32} (h : fX11_isAhead M a0 a1 a2 = some r9) : Ct l yX11_isAhead cX11_isAhead 3 (some .boolean) 1 0 P [.ref (pB P + a0), .int a1, .int a2] M (some (.int r9)) M :=
  Ct.mk (by decide +kernel) (Nat.le_of_ble_eq_true rfl) (fun p e s m args below meth c hX => wX11_isAhead hX M a0 a1 a2 h)
set_option maxHeartbeats 4000000 in
set_option maxRecDepth 100000 in
theorem wjX11_gapOf_82 {p : Program} {l : Launch} {e : Env} {s : State} {m : MethodId} {args : Array Value} {below : List Frame} {meth : Method} {c : Code} {P : PT} {N : Nat}  {r9 : Int32} (hX : Cy p s m args c meth cX11_gapOf 4 RX11 "gapOf" (some .int) P)   (M : Mm)  (s0 : Int32) (h : jX11_gapOf_82 N M s0 = some r9) : Wq p l e s m args below meth c 2 0 (some (.int r9)) M 4 P 0 82 [] [.int s0] M := by
  unfold jX11_gapOf_82 at h
  have hX0 := hX
  obtain ⟨X, hr, hlk, hnm⟩ := hX0
  have hx := X.1.1
  have hb := X.1.2.1
  intro H locs ls hM hl
  refine lv_istore_n (pc := 82) (lv' := [(3, .int s0)]) hx hb dX11_gapOf_82 rfl hl (by decide) rfl (fun ls hl => ?_)
  refine lv_iload_n (pc := 83) hx hb dX11_gapOf_83 rfl (lv_at hl 0 rfl) ?_
  refine lv_sipush (pc := 84) (v := (999 : Int32)) hx hb dX11_gapOf_84 (by decide) ?_
  refine lv_icmp_ge (pc := 87) (tgt := 94) hx hb dX11_gapOf_87 (by decide) (fun hc => ?_) (fun hc => ?_)
  · have h := if_t hc h
    refine lv_sipush (pc := 94) (v := (999 : Int32)) hx hb dX11_gapOf_94 (by decide) ?_
    obtain rfl := so1 h
    exact bz_iret (pc := 97) X hM hr hlk dX11_gapOf_97 (Nat.le_of_ble_eq_true rfl) (Nat.le_of_ble_eq_true rfl)
  · have h := if_f hc h
    refine lv_iload_n (pc := 90) hx hb dX11_gapOf_90 rfl (lv_at hl 0 rfl) ?_
    refine lv_goto (pc := 91) (tgt := 97) hx hb dX11_gapOf_91 (by decide) ?_
    obtain rfl := so1 h
    exact bz_iret (pc := 97) X hM hr hlk dX11_gapOf_97 (Nat.le_of_ble_eq_true rfl) (Nat.le_of_ble_eq_true rfl)
set_option maxHeartbeats 4000000 in
set_option maxRecDepth 100000 in
theorem wBX11_gapOf_4 {p : Program} {l : Launch} {e : Env} {s : State} {m : MethodId} {args : Array Value} {below : List Frame} {meth : Method} {c : Code} {P : PT} {N : Nat} {K4 : Mm → Nat → Int32 → Int32 → Int32 → Option (Int32)}  {r9 : Int32} (hX : Cy p s m args c meth cX11_gapOf 4 RX11 "gapOf" (some .int) P)  (hK4 : ∀ (M : Mm) (x0 : Nat) (x1 : Int32) (x2 : Int32) (x3 : Int32), K4 M x0 x1 x2 x3 = some r9 → Wq p l e s m args below meth c 2 0 (some (.int r9)) M 4 P 0 4 [(0, .ref (pB P + x0)), (1, .int x1), (2, .int x2), (3, .int x3)] [] M) (M : Mm) (x0 : Nat) (x1 : Int32) (x2 : Int32) (x3 : Int32)  (h : BX11_gapOf_4 N K4 M x0 x1 x2 x3 = some r9) : Wq p l e s m args below meth c 2 0 (some (.int r9)) M 4 P 0 4 [(0, .ref (pB P + x0)), (1, .int x1), (2, .int x2), (3, .int x3)] [] M := by
  unfold BX11_gapOf_4 at h
  have hX0 := hX
  obtain ⟨X, hr, hlk, hnm⟩ := hX0
  have hx := X.1.1
  have hb := X.1.2.1
  intro H locs ls hM hl
  refine lv_iload_n (pc := 4) hx hb dX11_gapOf_4 rfl (lv_at hl 3 rfl) ?_
  refine lv_aload_n (pc := 5) hx hb dX11_gapOf_5 rfl (lv_at hl 0 rfl) ?_
  obtain ⟨q1, e2, h⟩ := ob h
  refine bz_getQ (pc := 6) X hM fl_RX11_9 e2 dX11_gapOf_6 ?_
  refine lv_iconst (pc := 9) (v := (1 : Int32)) hx hb dX11_gapOf_9 (by decide) ?_
  obtain ⟨v3, e4, h⟩ := ob h
  refine bz_iald (pc := 10) X hM e4 dX11_gapOf_10 ?_
  refine lv_icmp_ge (pc := 11) (tgt := 59) hx hb dX11_gapOf_11 (by decide) (fun hc => ?_) (fun hc => ?_)
  · have h := if_t hc h
    refine lv_iload_n (pc := 59) hx hb dX11_gapOf_59 rfl (lv_at hl 2 rfl) ?_
    refine lv_if_ge (pc := 60) (tgt := 69) hx hb dX11_gapOf_60 (by decide) (fun hc => ?_) (fun hc => ?_)
    · have h := if_t hc h
      refine lv_aload_n (pc := 69) hx hb dX11_gapOf_69 rfl (lv_at hl 0 rfl) ?_
      refine lv_iload_n (pc := 70) hx hb dX11_gapOf_70 rfl (lv_at hl 1 rfl) ?_
      refine lv_iconst (pc := 71) (v := (1 : Int32)) hx hb dX11_gapOf_71 (by decide) ?_
      obtain ⟨v6, e5, h⟩ := ob h
      obtain ⟨fs7, hb8⟩ := (rX11_ring e5)
      refine bz_callV1 (pc := 72) (As := [.int x1, .int (1 : Int32)]) (rest := []) X hM hl.1 k_RX11_87 (ctX11_ring l e5) rfl hb8 rfl rfl ⟨(Nat.le_of_ble_eq_true rfl), (Nat.le_of_ble_eq_true rfl)⟩ (Nat.le_of_ble_eq_true rfl) ⟨(Nat.le_of_ble_eq_true rfl), (Nat.le_of_ble_eq_true rfl)⟩ dX11_gapOf_72 (fun H locs hM => ?_)
      refine lv_aload_n (pc := 75) hx hb dX11_gapOf_75 rfl (lv_at hl 0 rfl) ?_
      refine lv_iload_n (pc := 76) hx hb dX11_gapOf_76 rfl (lv_at hl 2 rfl) ?_
      refine lv_iconst (pc := 77) (v := (1 : Int32)) hx hb dX11_gapOf_77 (by decide) ?_
      obtain ⟨v10, e9, h⟩ := ob h
      obtain ⟨fs11, hb12⟩ := (rX11_ring e9)
      refine bz_callV1 (pc := 78) (As := [.int x2, .int (1 : Int32)]) (rest := [.int v6]) X hM hl.1 k_RX11_87 (ctX11_ring l e9) rfl hb12 rfl rfl ⟨(Nat.le_of_ble_eq_true rfl), (Nat.le_of_ble_eq_true rfl)⟩ (Nat.le_of_ble_eq_true rfl) ⟨(Nat.le_of_ble_eq_true rfl), (Nat.le_of_ble_eq_true rfl)⟩ dX11_gapOf_78 (fun H locs hM => ?_)
      refine lv_isub (pc := 81) hx hb dX11_gapOf_81 ?_
      exact wjX11_gapOf_82 hX _ _ h H locs ls hM (lv_sub hl [] rfl)
    · have h := if_f hc h
      refine lv_sipush (pc := 63) (v := (999 : Int32)) hx hb dX11_gapOf_63 (by decide) ?_
      refine lv_goto (pc := 66) (tgt := 82) hx hb dX11_gapOf_66 (by decide) ?_
      exact wjX11_gapOf_82 hX _ _ h H locs ls hM (lv_sub hl [] rfl)
  · have h := if_f hc h
    refine lv_aload_n (pc := 14) hx hb dX11_gapOf_14 rfl (lv_at hl 0 rfl) ?_
    refine lv_iload_n (pc := 15) hx hb dX11_gapOf_15 rfl (lv_at hl 3 rfl) ?_
    refine lv_iconst (pc := 16) (v := (0 : Int32)) hx hb dX11_gapOf_16 (by decide) ?_
    obtain ⟨v14, e13, h⟩ := ob h
    obtain ⟨fs15, hb16⟩ := (rX11_ring e13)
    refine bz_callV1 (pc := 17) (As := [.int x3, .int (0 : Int32)]) (rest := []) X hM hl.1 k_RX11_87 (ctX11_ring l e13) rfl hb16 rfl rfl ⟨(Nat.le_of_ble_eq_true rfl), (Nat.le_of_ble_eq_true rfl)⟩ (Nat.le_of_ble_eq_true rfl) ⟨(Nat.le_of_ble_eq_true rfl), (Nat.le_of_ble_eq_true rfl)⟩ dX11_gapOf_17 (fun H locs hM => ?_)
    refine lv_aload_n (pc := 20) hx hb dX11_gapOf_20 rfl (lv_at hl 0 rfl) ?_
    refine lv_iload_n (pc := 21) hx hb dX11_gapOf_21 rfl (lv_at hl 1 rfl) ?_
    refine lv_iconst (pc := 22) (v := (0 : Int32)) hx hb dX11_gapOf_22 (by decide) ?_
    obtain ⟨v18, e17, h⟩ := ob h
    obtain ⟨fs19, hb20⟩ := (rX11_ring e17)
    refine bz_callV1 (pc := 23) (As := [.int x1, .int (0 : Int32)]) (rest := [.int v14]) X hM hl.1 k_RX11_87 (ctX11_ring l e17) rfl hb20 rfl rfl ⟨(Nat.le_of_ble_eq_true rfl), (Nat.le_of_ble_eq_true rfl)⟩ (Nat.le_of_ble_eq_true rfl) ⟨(Nat.le_of_ble_eq_true rfl), (Nat.le_of_ble_eq_true rfl)⟩ dX11_gapOf_23 (fun H locs hM => ?_)
    refine lv_icmp_ne (pc := 26) (tgt := 53) hx hb dX11_gapOf_26 (by decide) (fun hc => ?_) (fun hc => ?_)
    · have h := if_f hc h
      refine lv_iinc (pc := 53) (v := (x3 + (1 : Int32))) (lv' := [(3, .int (x3 + (1 : Int32))), (0, .ref (pB P + x0)), (1, .int x1), (2, .int x2)]) hx hb dX11_gapOf_53 hl (k := 3) rfl rfl (by decide) rfl (fun ls hl => ?_)
      refine lv_goto (pc := 56) (tgt := 4) hx hb dX11_gapOf_56 (by decide) ?_
      exact hK4 _ _ _ _ _ h H locs ls hM (lv_sub hl [1, 2, 3, 0] rfl)
    · have h := if_t hc h
      refine lv_aload_n (pc := 29) hx hb dX11_gapOf_29 rfl (lv_at hl 0 rfl) ?_
      refine lv_iload_n (pc := 30) hx hb dX11_gapOf_30 rfl (lv_at hl 3 rfl) ?_
      refine lv_iload_n (pc := 31) hx hb dX11_gapOf_31 rfl (lv_at hl 1 rfl) ?_
      obtain ⟨v22, e21, h⟩ := ob h
      obtain ⟨fs23, hb24⟩ := (rX11_isAhead e21)
      refine bz_callV1 (pc := 32) (As := [.int x3, .int x1]) (rest := []) X hM hl.1 k_RX11_94 (ctX11_isAhead l e21) rfl hb24 rfl rfl ⟨(Nat.le_of_ble_eq_true rfl), (Nat.le_of_ble_eq_true rfl)⟩ (Nat.le_of_ble_eq_true rfl) ⟨(Nat.le_of_ble_eq_true rfl), (Nat.le_of_ble_eq_true rfl)⟩ dX11_gapOf_32 (fun H locs hM => ?_)
      refine lv_if_eq (pc := 35) (tgt := 53) hx hb dX11_gapOf_35 (by decide) (fun hc => ?_) (fun hc => ?_)
      · have h := if_t hc h
        refine lv_iinc (pc := 53) (v := (x3 + (1 : Int32))) (lv' := [(3, .int (x3 + (1 : Int32))), (0, .ref (pB P + x0)), (1, .int x1), (2, .int x2)]) hx hb dX11_gapOf_53 hl (k := 3) rfl rfl (by decide) rfl (fun ls hl => ?_)
        refine lv_goto (pc := 56) (tgt := 4) hx hb dX11_gapOf_56 (by decide) ?_
        exact hK4 _ _ _ _ _ h H locs ls hM (lv_sub hl [1, 2, 3, 0] rfl)
      · have h := if_f hc h
        refine lv_iload_n (pc := 38) hx hb dX11_gapOf_38 rfl (lv_at hl 2 rfl) ?_
        refine lv_if_lt (pc := 39) (tgt := 51) hx hb dX11_gapOf_39 (by decide) (fun hc => ?_) (fun hc => ?_)
        · have h := if_t hc h
          refine lv_iload_n (pc := 51) hx hb dX11_gapOf_51 rfl (lv_at hl 3 rfl) ?_
          refine lv_istore_n (pc := 52) (lv' := [(2, .int x3), (0, .ref (pB P + x0)), (1, .int x1), (3, .int x3)]) hx hb dX11_gapOf_52 rfl hl (by decide) rfl (fun ls hl => ?_)
          refine lv_iinc (pc := 53) (v := (x3 + (1 : Int32))) (lv' := [(3, .int (x3 + (1 : Int32))), (2, .int x3), (0, .ref (pB P + x0)), (1, .int x1)]) hx hb dX11_gapOf_53 hl (k := 3) rfl rfl (by decide) rfl (fun ls hl => ?_)
          refine lv_goto (pc := 56) (tgt := 4) hx hb dX11_gapOf_56 (by decide) ?_
          exact hK4 _ _ _ _ _ h H locs ls hM (lv_sub hl [2, 3, 1, 0] rfl)
        · have h := if_f hc h
          refine lv_aload_n (pc := 42) hx hb dX11_gapOf_42 rfl (lv_at hl 0 rfl) ?_
          refine lv_iload_n (pc := 43) hx hb dX11_gapOf_43 rfl (lv_at hl 2 rfl) ?_
          refine lv_iload_n (pc := 44) hx hb dX11_gapOf_44 rfl (lv_at hl 3 rfl) ?_
          obtain ⟨v26, e25, h⟩ := ob h
          obtain ⟨fs27, hb28⟩ := (rX11_isAhead e25)
          refine bz_callV1 (pc := 45) (As := [.int x2, .int x3]) (rest := []) X hM hl.1 k_RX11_94 (ctX11_isAhead l e25) rfl hb28 rfl rfl ⟨(Nat.le_of_ble_eq_true rfl), (Nat.le_of_ble_eq_true rfl)⟩ (Nat.le_of_ble_eq_true rfl) ⟨(Nat.le_of_ble_eq_true rfl), (Nat.le_of_ble_eq_true rfl)⟩ dX11_gapOf_45 (fun H locs hM => ?_)
          refine lv_if_eq (pc := 48) (tgt := 53) hx hb dX11_gapOf_48 (by decide) (fun hc => ?_) (fun hc => ?_)
          · have h := if_t hc h
            refine lv_iinc (pc := 53) (v := (x3 + (1 : Int32))) (lv' := [(3, .int (x3 + (1 : Int32))), (0, .ref (pB P + x0)), (1, .int x1), (2, .int x2)]) hx hb dX11_gapOf_53 hl (k := 3) rfl rfl (by decide) rfl (fun ls hl => ?_)
            refine lv_goto (pc := 56) (tgt := 4) hx hb dX11_gapOf_56 (by decide) ?_
            exact hK4 _ _ _ _ _ h H locs ls hM (lv_sub hl [1, 2, 3, 0] rfl)
          · have h := if_f hc h
            refine lv_iload_n (pc := 51) hx hb dX11_gapOf_51 rfl (lv_at hl 3 rfl) ?_
            refine lv_istore_n (pc := 52) (lv' := [(2, .int x3), (0, .ref (pB P + x0)), (1, .int x1), (3, .int x3)]) hx hb dX11_gapOf_52 rfl hl (by decide) rfl (fun ls hl => ?_)
            refine lv_iinc (pc := 53) (v := (x3 + (1 : Int32))) (lv' := [(3, .int (x3 + (1 : Int32))), (2, .int x3), (0, .ref (pB P + x0)), (1, .int x1)]) hx hb dX11_gapOf_53 hl (k := 3) rfl rfl (by decide) rfl (fun ls hl => ?_)
            refine lv_goto (pc := 56) (tgt := 4) hx hb dX11_gapOf_56 (by decide) ?_
            exact hK4 _ _ _ _ _ h H locs ls hM (lv_sub hl [2, 3, 1, 0] rfl)
set_option maxHeartbeats 4000000 in
set_option maxRecDepth 100000 in
theorem wLX11_gapOf_4 {p : Program} {l : Launch} {e : Env} {s : State} {m : MethodId} {args : Array Value} {below : List Frame} {meth : Method} {c : Code} {P : PT} {N : Nat}  {r9 : Int32} (hX : Cy p s m args c meth cX11_gapOf 4 RX11 "gapOf" (some .int) P)   : ∀ (n : Nat) (M : Mm) (x0 : Nat) (x1 : Int32) (x2 : Int32) (x3 : Int32) , LX11_gapOf_4 N n M x0 x1 x2 x3 = some r9 → Wq p l e s m args below meth c 2 0 (some (.int r9)) M 4 P 0 4 [(0, .ref (pB P + x0)), (1, .int x1), (2, .int x2), (3, .int x3)] [] M := by
  intro n
  induction n with
  | zero => intro M x0 x1 x2 x3 h; cases h
  | succ n ih => intro M x0 x1 x2 x3 h; exact wBX11_gapOf_4 hX ih M x0 x1 x2 x3 h
set_option maxHeartbeats 4000000 in
set_option maxRecDepth 100000 in
theorem wX11_gapOf {p : Program} {l : Launch} {e : Env} {s : State} {m : MethodId} {args : Array Value} {below : List Frame} {meth : Method} {c : Code} {P : PT} {N : Nat}  {r9 : Int32} (hX : Cy p s m args c meth cX11_gapOf 4 RX11 "gapOf" (some .int) P)  (M : Mm) (a0 : Nat) (a1 : Int32) (h : fX11_gapOf N M a0 a1 = some r9) : Wq p l e s m args below meth c 2 0 (some (.int r9)) M 4 P 0 0 [(0, .ref (pB P + a0)), (1, .int a1)] [] M := by
  unfold fX11_gapOf at h
  obtain ⟨_, _, h⟩ := ob h
  have hX0 := hX
  obtain ⟨X, hr, hlk, hnm⟩ := hX0
  have hx := X.1.1
  have hb := X.1.2.1
  intro H locs ls hM hl
  refine lv_iconst (pc := 0) (v := (-1 : Int32)) hx hb dX11_gapOf_0 (by decide) ?_
  refine lv_istore_n (pc := 1) (lv' := [(2, .int (-1 : Int32)), (0, .ref (pB P + a0)), (1, .int a1)]) hx hb dX11_gapOf_1 rfl hl (by decide) rfl (fun ls hl => ?_)
  refine lv_iconst (pc := 2) (v := (0 : Int32)) hx hb dX11_gapOf_2 (by decide) ?_
  refine lv_istore_n (pc := 3) (lv' := [(3, .int (0 : Int32)), (2, .int (-1 : Int32)), (0, .ref (pB P + a0)), (1, .int a1)]) hx hb dX11_gapOf_3 rfl hl (by decide) rfl (fun ls hl => ?_)
  exact wLX11_gapOf_4 hX _ _ _ _ _ _ h H locs ls hM (lv_sub hl [2, 3, 1, 0] rfl)
theorem rX11_gapOf {N : Nat} {M : Mm} {a0 : Nat} {a1 : Int32} {r9 : Int32} (h : fX11_gapOf N M a0 a1 = some r9) : ∃ fs, M[a0]? = some (.inr (11, fs)) := by
  unfold fX11_gapOf at h
  obtain ⟨_, e1, _⟩ := ob h
  exact gC_spec e1
theorem ctX11_gapOf (l : Launch) {P : PT} {N : Nat} {M : Mm} {a0 : Nat} {a1 : Int32} {r9 : Int32} (h : fX11_gapOf N M a0 a1 = some r9) : Ct l yX11_gapOf cX11_gapOf 4 (some .int) 2 0 P [.ref (pB P + a0), .int a1] M (some (.int r9)) M :=
  Ct.mk (by decide +kernel) (Nat.le_of_ble_eq_true rfl) (fun p e s m args below meth c hX => wX11_gapOf hX M a0 a1 h)
set_option maxHeartbeats 4000000 in
set_option maxRecDepth 100000 in
theorem wjX11_ringOf_20 {p : Program} {l : Launch} {e : Env} {s : State} {m : MethodId} {args : Array Value} {below : List Frame} {meth : Method} {c : Code} {P : PT} {N : Nat}  {r9 : Int32} {M9 : Mm} (hX : Cy p s m args c meth cX11_ringOf 3 RX11 "ringOf" (some .int) P)   (M : Mm) (x0 : Nat)  (h : jX11_ringOf_20 N M x0 = some (r9, M9)) : Wq p l e s m args below meth c 3 0 (some (.int r9)) M9 3 P 0 20 [(0, .ref (pB P + x0))] [] M := by
  unfold jX11_ringOf_20 at h
  have hX0 := hX
  obtain ⟨X, hr, hlk, hnm⟩ := hX0
  have hx := X.1.1
  have hb := X.1.2.1
  intro H locs ls hM hl
  refine lv_aload_n (pc := 20) hx hb dX11_ringOf_20 rfl (lv_at hl 0 rfl) ?_
  refine lv_iconst (pc := 21) (v := (1 : Int32)) hx hb dX11_ringOf_21 (by decide) ?_
  obtain ⟨v2, M3, e1, h⟩ := ob2 h
  obtain ⟨fs4, hb5⟩ := (rX11_error e1)
  refine bz_callV1 (pc := 22) (As := [.int (1 : Int32)]) (rest := []) X hM hl.1 k_RX11_73 (ctX11_error l e1) rfl hb5 rfl rfl ⟨(Nat.le_of_ble_eq_true rfl), (Nat.le_of_ble_eq_true rfl)⟩ (Nat.le_of_ble_eq_true rfl) ⟨(Nat.le_of_ble_eq_true rfl), (Nat.le_of_ble_eq_true rfl)⟩ dX11_ringOf_22 (fun H locs hM => ?_)
  obtain ⟨rfl, rfl⟩ := so2 h
  exact bz_iret (pc := 25) X hM hr hlk dX11_ringOf_25 (Nat.le_of_ble_eq_true rfl) (Nat.le_of_ble_eq_true rfl)
set_option maxHeartbeats 4000000 in
set_option maxRecDepth 100000 in
theorem wX11_ringOf {p : Program} {l : Launch} {e : Env} {s : State} {m : MethodId} {args : Array Value} {below : List Frame} {meth : Method} {c : Code} {P : PT} {N : Nat}  {r9 : Int32} {M9 : Mm} (hX : Cy p s m args c meth cX11_ringOf 3 RX11 "ringOf" (some .int) P)  (M : Mm) (a0 : Nat) (a1 : Int32) (a2 : Int32) (h : fX11_ringOf N M a0 a1 a2 = some (r9, M9)) : Wq p l e s m args below meth c 3 0 (some (.int r9)) M9 3 P 0 0 [(0, .ref (pB P + a0)), (1, .int a1), (2, .int a2)] [] M := by
  unfold fX11_ringOf at h
  obtain ⟨_, _, h⟩ := ob h
  have hX0 := hX
  obtain ⟨X, hr, hlk, hnm⟩ := hX0
  have hx := X.1.1
  have hb := X.1.2.1
  intro H locs ls hM hl
  refine lv_aload_n (pc := 0) hx hb dX11_ringOf_0 rfl (lv_at hl 0 rfl) ?_
  refine lv_iload_n (pc := 1) hx hb dX11_ringOf_1 rfl (lv_at hl 1 rfl) ?_
  obtain ⟨v2, e1, h⟩ := ob h
  obtain ⟨fs3, hb4⟩ := (rX11_isRing e1)
  refine bz_callV1 (pc := 2) (As := [.int a1]) (rest := []) X hM hl.1 k_RX11_97 (ctX11_isRing l e1) rfl hb4 rfl rfl ⟨(Nat.le_of_ble_eq_true rfl), (Nat.le_of_ble_eq_true rfl)⟩ (Nat.le_of_ble_eq_true rfl) ⟨(Nat.le_of_ble_eq_true rfl), (Nat.le_of_ble_eq_true rfl)⟩ dX11_ringOf_2 (fun H locs hM => ?_)
  refine lv_if_eq (pc := 5) (tgt := 20) hx hb dX11_ringOf_5 (by decide) (fun hc => ?_) (fun hc => ?_)
  · have h := if_t hc h
    exact wjX11_ringOf_20 hX _ _ h H locs ls hM (lv_sub hl [0] rfl)
  · have h := if_f hc h
    refine lv_iload_n (pc := 8) hx hb dX11_ringOf_8 rfl (lv_at hl 2 rfl) ?_
    refine lv_i2l (pc := 9) (v := ((a2).toInt64)) hx hb dX11_ringOf_9 rfl ?_
    refine lv_lconst (pc := 10) (v := (0 : Int64)) hx hb dX11_ringOf_10 (by decide) ?_
    refine lv_ldc2 (pc := 11) (v := (4 : Int64)) hx hb X.1.2.2.2.1 (X.1.2.2.2.2 _ g_1310) dX11_ringOf_11 ?_
    obtain ⟨v6, e5, h⟩ := ob h
    refine bz_callS1 (pc := 14) (As := [.long ((a2).toInt64), .long (0 : Int64), .long (4 : Int64)]) (rest := []) X hM hl.1 k_RX11_57 (ctX11_in l e5) rfl rfl ⟨(Nat.le_of_ble_eq_true rfl), (Nat.le_of_ble_eq_true rfl)⟩ (Nat.le_of_ble_eq_true rfl) ⟨(Nat.le_of_ble_eq_true rfl), (Nat.le_of_ble_eq_true rfl)⟩ dX11_ringOf_14 (fun H locs hM => ?_)
    refine lv_if_ne (pc := 17) (tgt := 26) hx hb dX11_ringOf_17 (by decide) (fun hc => ?_) (fun hc => ?_)
    · have h := if_f hc h
      refine lv_iload_n (pc := 26) hx hb dX11_ringOf_26 rfl (lv_at hl 2 rfl) ?_
      refine lv_iconst (pc := 27) (v := (3 : Int32)) hx hb dX11_ringOf_27 (by decide) ?_
      refine lv_icmp_ge (pc := 28) (tgt := 40) hx hb dX11_ringOf_28 (by decide) (fun hc => ?_) (fun hc => ?_)
      · have h := if_t hc h
        refine lv_iload_n (pc := 40) hx hb dX11_ringOf_40 rfl (lv_at hl 2 rfl) ?_
        refine lv_iconst (pc := 41) (v := (3 : Int32)) hx hb dX11_ringOf_41 (by decide) ?_
        refine lv_icmp_ne (pc := 42) (tgt := 53) hx hb dX11_ringOf_42 (by decide) (fun hc => ?_) (fun hc => ?_)
        · have h := if_f hc h
          refine lv_aload_n (pc := 53) hx hb dX11_ringOf_53 rfl (lv_at hl 0 rfl) ?_
          refine lv_iload_n (pc := 54) hx hb dX11_ringOf_54 rfl (lv_at hl 1 rfl) ?_
          obtain ⟨v8, e7, h⟩ := ob h
          obtain ⟨fs9, hb10⟩ := (rX11_gapOf e7)
          refine bz_callV1 (pc := 55) (As := [.int a1]) (rest := []) X hM hl.1 k_RX11_105 (ctX11_gapOf l e7) rfl hb10 rfl rfl ⟨(Nat.le_of_ble_eq_true rfl), (Nat.le_of_ble_eq_true rfl)⟩ (Nat.le_of_ble_eq_true rfl) ⟨(Nat.le_of_ble_eq_true rfl), (Nat.le_of_ble_eq_true rfl)⟩ dX11_ringOf_55 (fun H locs hM => ?_)
          obtain ⟨rfl, rfl⟩ := so2 h
          exact bz_iret (pc := 58) X hM hr hlk dX11_ringOf_58 (Nat.le_of_ble_eq_true rfl) (Nat.le_of_ble_eq_true rfl)
        · have h := if_t hc h
          refine lv_aload_n (pc := 45) hx hb dX11_ringOf_45 rfl (lv_at hl 0 rfl) ?_
          refine lv_iload_n (pc := 46) hx hb dX11_ringOf_46 rfl (lv_at hl 1 rfl) ?_
          obtain ⟨v12, e11, h⟩ := ob h
          obtain ⟨fs13, hb14⟩ := (rX11_shownOf e11)
          refine bz_callV1 (pc := 47) (As := [.int a1]) (rest := []) X hM hl.1 k_RX11_102 (ctX11_shownOf l e11) rfl hb14 rfl rfl ⟨(Nat.le_of_ble_eq_true rfl), (Nat.le_of_ble_eq_true rfl)⟩ (Nat.le_of_ble_eq_true rfl) ⟨(Nat.le_of_ble_eq_true rfl), (Nat.le_of_ble_eq_true rfl)⟩ dX11_ringOf_47 (fun H locs hM => ?_)
          refine lv_goto (pc := 50) (tgt := 58) hx hb dX11_ringOf_50 (by decide) ?_
          obtain ⟨rfl, rfl⟩ := so2 h
          exact bz_iret (pc := 58) X hM hr hlk dX11_ringOf_58 (Nat.le_of_ble_eq_true rfl) (Nat.le_of_ble_eq_true rfl)
      · have h := if_f hc h
        refine lv_aload_n (pc := 31) hx hb dX11_ringOf_31 rfl (lv_at hl 0 rfl) ?_
        refine lv_iload_n (pc := 32) hx hb dX11_ringOf_32 rfl (lv_at hl 1 rfl) ?_
        refine lv_iload_n (pc := 33) hx hb dX11_ringOf_33 rfl (lv_at hl 2 rfl) ?_
        obtain ⟨v16, e15, h⟩ := ob h
        obtain ⟨fs17, hb18⟩ := (rX11_ring e15)
        refine bz_callV1 (pc := 34) (As := [.int a1, .int a2]) (rest := []) X hM hl.1 k_RX11_87 (ctX11_ring l e15) rfl hb18 rfl rfl ⟨(Nat.le_of_ble_eq_true rfl), (Nat.le_of_ble_eq_true rfl)⟩ (Nat.le_of_ble_eq_true rfl) ⟨(Nat.le_of_ble_eq_true rfl), (Nat.le_of_ble_eq_true rfl)⟩ dX11_ringOf_34 (fun H locs hM => ?_)
        refine lv_goto (pc := 37) (tgt := 58) hx hb dX11_ringOf_37 (by decide) ?_
        obtain ⟨rfl, rfl⟩ := so2 h
        exact bz_iret (pc := 58) X hM hr hlk dX11_ringOf_58 (Nat.le_of_ble_eq_true rfl) (Nat.le_of_ble_eq_true rfl)
    · have h := if_t hc h
      exact wjX11_ringOf_20 hX _ _ h H locs ls hM (lv_sub hl [0] rfl)
theorem rX11_ringOf {N : Nat} {M : Mm} {a0 : Nat} {a1 : Int32} {a2 : Int32} {r9 : Int32 × Mm} (h : fX11_ringOf N M a0 a1 a2 = some r9) : ∃ fs, M[a0]? = some (.inr (11, fs)) := by
  unfold fX11_ringOf at h
  obtain ⟨_, e1, _⟩ := ob h
  exact gC_spec e1
theorem ctX11_ringOf (l : Launch) {P : PT} {N : Nat} {M : Mm} {a0 : Nat} {a1 : Int32} {a2 : Int32} {r9 : Int32} {M9 : Mm} (h : fX11_ringOf N M a0 a1 a2 = some (r9, M9)) : Ct l yX11_ringOf cX11_ringOf 3 (some .int) 3 0 P [.ref (pB P + a0), .int a1, .int a2] M (some (.int r9)) M9 :=
  Ct.mk (by decide +kernel) (Nat.le_of_ble_eq_true rfl) (fun p e s m args below meth c hX => wX11_ringOf hX M a0 a1 a2 h)
