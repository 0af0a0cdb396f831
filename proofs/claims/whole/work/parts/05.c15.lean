set_option maxHeartbeats 4000000 in
set_option maxRecDepth 100000 in
theorem wBX5_takeLines_13 {p : Program} {l : Launch} {e : Env} {s : State} {m : MethodId} {args : Array Value} {below : List Frame} {meth : Method} {c : Code} {P : PT} {N : Nat} {K13 : Mm → Nat → Nat → Nat → Nat → Int32 → Int32 → Int32 → Option (Int32 × Mm)}  {r9 : Int32} {M9 : Mm} (hX : Cy p s m args c meth cX5_takeLines 7 RX5 "takeLines" (some .int) P)  (hK13 : ∀ (M : Mm) (x0 : Nat) (x1 : Nat) (x2 : Nat) (x3 : Nat) (x4 : Int32) (x5 : Int32) (x6 : Int32), K13 M x0 x1 x2 x3 x4 x5 x6 = some (r9, M9) → Wq p l e s m args below meth c 5 0 (some (.int r9)) M9 7 P 0 13 [(0, .ref (pB P + x0)), (1, .ref (pB P + x1)), (2, .ref (pB P + x2)), (3, .ref (pB P + x3)), (4, .int x4), (5, .int x5), (6, .int x6)] [] M) (M : Mm) (x0 : Nat) (x1 : Nat) (x2 : Nat) (x3 : Nat) (x4 : Int32) (x5 : Int32) (x6 : Int32)  (h : BX5_takeLines_13 N K13 M x0 x1 x2 x3 x4 x5 x6 = some (r9, M9)) : Wq p l e s m args below meth c 5 0 (some (.int r9)) M9 7 P 0 13 [(0, .ref (pB P + x0)), (1, .ref (pB P + x1)), (2, .ref (pB P + x2)), (3, .ref (pB P + x3)), (4, .int x4), (5, .int x5), (6, .int x6)] [] M := by
  unfold BX5_takeLines_13 at h
  have hX0 := hX
  obtain ⟨X, hr, hlk, hnm⟩ := hX0
  have hx := X.1.1
  have hb := X.1.2.1
  intro H locs ls hM hl
  refine lv_iload (pc := 13) hx hb dX5_takeLines_13 (lv_at hl 6 rfl) ?_
  refine lv_aload_n (pc := 15) hx hb dX5_takeLines_15 rfl (lv_at hl 3 rfl) ?_
  obtain ⟨v2, e1, h⟩ := ob h
  obtain ⟨fs3, hb4⟩ := (rX3_size e1)
  refine bz_callV1 (pc := 16) (As := []) (rest := [.int x6]) X hM hl.1 k_RX5_61 (ctX3_size l e1) rfl hb4 rfl rfl ⟨(Nat.le_of_ble_eq_true rfl), (Nat.le_of_ble_eq_true rfl)⟩ (Nat.le_of_ble_eq_true rfl) ⟨(Nat.le_of_ble_eq_true rfl), (Nat.le_of_ble_eq_true rfl)⟩ dX5_takeLines_16 (fun H locs hM => ?_)
  refine lv_icmp_ge (pc := 19) (tgt := 65) hx hb dX5_takeLines_19 (by decide) (fun hc => ?_) (fun hc => ?_)
  · have h := if_t hc h
    refine lv_iload (pc := 65) hx hb dX5_takeLines_65 (lv_at hl 5 rfl) ?_
    obtain ⟨rfl, rfl⟩ := so2 h
    exact bz_iret (pc := 67) X hM hr hlk dX5_takeLines_67 (Nat.le_of_ble_eq_true rfl) (Nat.le_of_ble_eq_true rfl)
  · have h := if_f hc h
    refine lv_aload_n (pc := 22) hx hb dX5_takeLines_22 rfl (lv_at hl 0 rfl) ?_
    refine lv_aload_n (pc := 23) hx hb dX5_takeLines_23 rfl (lv_at hl 1 rfl) ?_
    refine lv_aload_n (pc := 24) hx hb dX5_takeLines_24 rfl (lv_at hl 2 rfl) ?_
    refine lv_aload_n (pc := 25) hx hb dX5_takeLines_25 rfl (lv_at hl 3 rfl) ?_
    refine lv_iload (pc := 26) hx hb dX5_takeLines_26 (lv_at hl 6 rfl) ?_
    obtain ⟨v6, e5, h⟩ := ob h
    obtain ⟨fs7, hb8⟩ := (rX3_at e5)
    refine bz_callV1 (pc := 28) (As := [.int x6]) (rest := [.ref (pB P + x2), .ref (pB P + x1), .ref (pB P + x0)]) X hM hl.1 k_RX5_54 (ctX3_at l e5) rfl hb8 rfl rfl ⟨(Nat.le_of_ble_eq_true rfl), (Nat.le_of_ble_eq_true rfl)⟩ (Nat.le_of_ble_eq_true rfl) ⟨(Nat.le_of_ble_eq_true rfl), (Nat.le_of_ble_eq_true rfl)⟩ dX5_takeLines_28 (fun H locs hM => ?_)
    refine lv_iload (pc := 31) hx hb dX5_takeLines_31 (lv_at hl 4 rfl) ?_
    obtain ⟨M10, e9, h⟩ := ob h
    obtain ⟨fs11, hb12⟩ := (rX5_take e9)
    refine bz_callV0 (pc := 33) (As := [.ref (pB P + x1), .ref (pB P + x2), .int v6, .int x4]) (rest := []) X hM hl.1 k_RX5_65 (ctX5_take l e9) rfl hb12 rfl rfl ⟨(Nat.le_of_ble_eq_true rfl), (Nat.le_of_ble_eq_true rfl)⟩ (Nat.le_of_ble_eq_true rfl) ⟨(Nat.le_of_ble_eq_true rfl), (Nat.le_of_ble_eq_true rfl)⟩ dX5_takeLines_33 (fun H locs hM => ?_)
    refine lv_iload (pc := 36) hx hb dX5_takeLines_36 (lv_at hl 6 rfl) ?_
    refine lv_if_ne (pc := 38) (tgt := 48) hx hb dX5_takeLines_38 (by decide) (fun hc => ?_) (fun hc => ?_)
    · have h := if_f hc h
      refine lv_aload_n (pc := 48) hx hb dX5_takeLines_48 rfl (lv_at hl 0 rfl) ?_
      obtain ⟨v14, M15, e13, h⟩ := ob2 h
      obtain ⟨fs16, hb17⟩ := (rX5_keepGreater e13)
      refine bz_callV1 (pc := 49) (As := []) (rest := []) X hM hl.1 k_RX5_72 (ctX5_keepGreater l e13) rfl hb17 rfl rfl ⟨(Nat.le_of_ble_eq_true rfl), (Nat.le_of_ble_eq_true rfl)⟩ (Nat.le_of_ble_eq_true rfl) ⟨(Nat.le_of_ble_eq_true rfl), (Nat.le_of_ble_eq_true rfl)⟩ dX5_takeLines_49 (fun H locs hM => ?_)
      refine lv_if_eq (pc := 52) (tgt := 59) hx hb dX5_takeLines_52 (by decide) (fun hc => ?_) (fun hc => ?_)
      · have h := if_t hc h
        refine lv_iinc (pc := 59) (v := (x6 + (1 : Int32))) (lv' := [(6, .int (x6 + (1 : Int32))), (0, .ref (pB P + x0)), (1, .ref (pB P + x1)), (2, .ref (pB P + x2)), (3, .ref (pB P + x3)), (4, .int x4), (5, .int x5)]) hx hb dX5_takeLines_59 hl (k := 6) rfl rfl (by decide) rfl (fun ls hl => ?_)
        refine lv_goto (pc := 62) (tgt := 13) hx hb dX5_takeLines_62 (by decide) ?_
        exact hK13 _ _ _ _ _ _ _ _ h H locs ls hM (lv_sub hl [1, 2, 3, 4, 5, 6, 0] rfl)
      · have h := if_f hc h
        refine lv_iload (pc := 55) hx hb dX5_takeLines_55 (lv_at hl 6 rfl) ?_
        refine lv_istore (pc := 57) (lv' := [(5, .int x6), (0, .ref (pB P + x0)), (1, .ref (pB P + x1)), (2, .ref (pB P + x2)), (3, .ref (pB P + x3)), (4, .int x4), (6, .int x6)]) hx hb dX5_takeLines_57 hl (by decide) rfl (fun ls hl => ?_)
        refine lv_iinc (pc := 59) (v := (x6 + (1 : Int32))) (lv' := [(6, .int (x6 + (1 : Int32))), (5, .int x6), (0, .ref (pB P + x0)), (1, .ref (pB P + x1)), (2, .ref (pB P + x2)), (3, .ref (pB P + x3)), (4, .int x4)]) hx hb dX5_takeLines_59 hl (k := 6) rfl rfl (by decide) rfl (fun ls hl => ?_)
        refine lv_goto (pc := 62) (tgt := 13) hx hb dX5_takeLines_62 (by decide) ?_
        exact hK13 _ _ _ _ _ _ _ _ h H locs ls hM (lv_sub hl [2, 3, 4, 5, 6, 1, 0] rfl)
    · have h := if_t hc h
      refine lv_aload_n (pc := 41) hx hb dX5_takeLines_41 rfl (lv_at hl 0 rfl) ?_
      obtain ⟨M19, e18, h⟩ := ob h
      obtain ⟨fs20, hb21⟩ := (rX5_keepAll e18)
      refine bz_callV0 (pc := 42) (As := []) (rest := []) X hM hl.1 k_RX5_69 (ctX5_keepAll l e18) rfl hb21 rfl rfl ⟨(Nat.le_of_ble_eq_true rfl), (Nat.le_of_ble_eq_true rfl)⟩ (Nat.le_of_ble_eq_true rfl) ⟨(Nat.le_of_ble_eq_true rfl), (Nat.le_of_ble_eq_true rfl)⟩ dX5_takeLines_42 (fun H locs hM => ?_)
      refine lv_goto (pc := 45) (tgt := 59) hx hb dX5_takeLines_45 (by decide) ?_
      refine lv_iinc (pc := 59) (v := (x6 + (1 : Int32))) (lv' := [(6, .int (x6 + (1 : Int32))), (0, .ref (pB P + x0)), (1, .ref (pB P + x1)), (2, .ref (pB P + x2)), (3, .ref (pB P + x3)), (4, .int x4), (5, .int x5)]) hx hb dX5_takeLines_59 hl (k := 6) rfl rfl (by decide) rfl (fun ls hl => ?_)
      refine lv_goto (pc := 62) (tgt := 13) hx hb dX5_takeLines_62 (by decide) ?_
      exact hK13 _ _ _ _ _ _ _ _ h H locs ls hM (lv_sub hl [1, 2, 3, 4, 5, 6, 0] rfl)
set_option maxHeartbeats 4000000 in
set_option maxRecDepth 100000 in
theorem wLX5_takeLines_13 {p : Program} {l : Launch} {e : Env} {s : State} {m : MethodId} {args : Array Value} {below : List Frame} {meth : Method} {c : Code} {P : PT} {N : Nat}  {r9 : Int32} {M9 : Mm} (hX : Cy p s m args c meth cX5_takeLines 7 RX5 "takeLines" (some .int) P)   : ∀ (n : Nat) (M : Mm) (x0 : Nat) (x1 : Nat) (x2 : Nat) (x3 : Nat) (x4 : Int32) (x5 : Int32) (x6 : Int32) , LX5_takeLines_13 N n M x0 x1 x2 x3 x4 x5 x6 = some (r9, M9) → Wq p l e s m args below meth c 5 0 (some (.int r9)) M9 7 P 0 13 [(0, .ref (pB P + x0)), (1, .ref (pB P + x1)), (2, .ref (pB P + x2)), (3, .ref (pB P + x3)), (4, .int x4), (5, .int x5), (6, .int x6)] [] M := by
  intro n
  induction n with
  | zero => intro M x0 x1 x2 x3 x4 x5 x6 h; cases h
  | succ n ih => intro M x0 x1 x2 x3 x4 x5 x6 h; exact wBX5_takeLines_13 hX ih M x0 x1 x2 x3 x4 x5 x6 h
set_option maxHeartbeats 4000000 in
set_option maxRecDepth 100000 in
theorem wX5_takeLines {p : Program} {l : Launch} {e : Env} {s : State} {m : MethodId} {args : Array Value} {below : List Frame} {meth : Method} {c : Code} {P : PT} {N : Nat}  {r9 : Int32} {M9 : Mm} (hX : Cy p s m args c meth cX5_takeLines 7 RX5 "takeLines" (some .int) P)  (M : Mm) (a0 : Nat) (a1 : Nat) (a2 : Nat) (a3 : Nat) (a4 : Int32) (h : fX5_takeLines N M a0 a1 a2 a3 a4 = some (r9, M9)) : Wq p l e s m args below meth c 5 0 (some (.int r9)) M9 7 P 0 0 [(0, .ref (pB P + a0)), (1, .ref (pB P + a1)), (2, .ref (pB P + a2)), (3, .ref (pB P + a3)), (4, .int a4)] [] M := by
  unfold fX5_takeLines at h
  obtain ⟨_, _, h⟩ := ob h
  have hX0 := hX
  obtain ⟨X, hr, hlk, hnm⟩ := hX0
  have hx := X.1.1
  have hb := X.1.2.1
  intro H locs ls hM hl
  refine lv_iconst (pc := 0) (v := (0 : Int32)) hx hb dX5_takeLines_0 (by decide) ?_
  refine lv_istore (pc := 1) (lv' := [(5, .int (0 : Int32)), (0, .ref (pB P + a0)), (1, .ref (pB P + a1)), (2, .ref (pB P + a2)), (3, .ref (pB P + a3)), (4, .int a4)]) hx hb dX5_takeLines_1 hl (by decide) rfl (fun ls hl => ?_)
  refine lv_aload_n (pc := 3) hx hb dX5_takeLines_3 rfl (lv_at hl 1 rfl) ?_
  obtain ⟨q1, e2, h⟩ := ob h
  refine bz_getQ (pc := 4) X hM fl_RX5_20 e2 dX5_takeLines_4 ?_
  obtain ⟨M4, e3, h⟩ := ob h
  obtain ⟨fs5, hb6⟩ := (rX3_clear e3)
  refine bz_callV0 (pc := 7) (As := []) (rest := []) X hM hl.1 k_RX5_32 (ctX3_clear l e3) rfl hb6 rfl rfl ⟨(Nat.le_of_ble_eq_true rfl), (Nat.le_of_ble_eq_true rfl)⟩ (Nat.le_of_ble_eq_true rfl) ⟨(Nat.le_of_ble_eq_true rfl), (Nat.le_of_ble_eq_true rfl)⟩ dX5_takeLines_7 (fun H locs hM => ?_)
  refine lv_iconst (pc := 10) (v := (0 : Int32)) hx hb dX5_takeLines_10 (by decide) ?_
  refine lv_istore (pc := 11) (lv' := [(6, .int (0 : Int32)), (5, .int (0 : Int32)), (0, .ref (pB P + a0)), (1, .ref (pB P + a1)), (2, .ref (pB P + a2)), (3, .ref (pB P + a3)), (4, .int a4)]) hx hb dX5_takeLines_11 hl (by decide) rfl (fun ls hl => ?_)
  exact wLX5_takeLines_13 hX _ _ _ _ _ _ _ _ _ h H locs ls hM (lv_sub hl [2, 3, 4, 5, 6, 1, 0] rfl)
theorem rX5_takeLines {N : Nat} {M : Mm} {a0 : Nat} {a1 : Nat} {a2 : Nat} {a3 : Nat} {a4 : Int32} {r9 : Int32 × Mm} (h : fX5_takeLines N M a0 a1 a2 a3 a4 = some r9) : ∃ fs, M[a0]? = some (.inr (5, fs)) := by
  unfold fX5_takeLines at h
  obtain ⟨_, e1, _⟩ := ob h
  exact gC_spec e1
theorem ctX5_takeLines (l : Launch) {P : PT} {N : Nat} {M : Mm} {a0 : Nat} {a1 : Nat} {a2 : Nat} {a3 : Nat} {a4 : Int32} {r9 : Int32} {M9 : Mm} (h : fX5_takeLines N M a0 a1 a2 a3 a4 = some (r9, M9)) : Ct l yX5_takeLines cX5_takeLines 7 (some .int) 5 0 P [.ref (pB P + a0), .ref (pB P + a1), .ref (pB P + a2), .ref (pB P + a3), .int a4] M (some (.int r9)) M9 :=
  Ct.mk (by decide +kernel) (Nat.le_of_ble_eq_true rfl) (fun p e s m args below meth c hX => wX5_takeLines hX M a0 a1 a2 a3 a4 h)
set_option maxHeartbeats 4000000 in
set_option maxRecDepth 100000 in
theorem wjX10_chosen_20 {p : Program} {l : Launch} {e : Env} {s : State} {m : MethodId} {args : Array Value} {below : List Frame} {meth : Method} {c : Code} {P : PT} {N : Nat}  {r9 : Int32} {M9 : Mm} (hX : Cy p s m args c meth cX10_chosen 4 RX10 "chosen" (some .int) P)   (M : Mm) (x0 : Nat)  (h : jX10_chosen_20 N M x0 = some (r9, M9)) : Wq p l e s m args below meth c 6 0 (some (.int r9)) M9 4 P 0 20 [(0, .ref (pB P + x0))] [] M := by
  unfold jX10_chosen_20 at h
  have hX0 := hX
  obtain ⟨X, hr, hlk, hnm⟩ := hX0
  have hx := X.1.1
  have hb := X.1.2.1
  intro H locs ls hM hl
  refine lv_aload_n (pc := 20) hx hb dX10_chosen_20 rfl (lv_at hl 0 rfl) ?_
  refine lv_iconst (pc := 21) (v := (1 : Int32)) hx hb dX10_chosen_21 (by decide) ?_
  obtain ⟨v2, M3, e1, h⟩ := ob2 h
  obtain ⟨fs4, hb5⟩ := (rX10_error e1)
  refine bz_callV1 (pc := 22) (As := [.int (1 : Int32)]) (rest := []) X hM hl.1 k_RX10_78 (ctX10_error l e1) rfl hb5 rfl rfl ⟨(Nat.le_of_ble_eq_true rfl), (Nat.le_of_ble_eq_true rfl)⟩ (Nat.le_of_ble_eq_true rfl) ⟨(Nat.le_of_ble_eq_true rfl), (Nat.le_of_ble_eq_true rfl)⟩ dX10_chosen_22 (fun H locs hM => ?_)
  obtain ⟨rfl, rfl⟩ := so2 h
  exact bz_iret (pc := 25) X hM hr hlk dX10_chosen_25 (Nat.le_of_ble_eq_true rfl) (Nat.le_of_ble_eq_true rfl)
set_option maxHeartbeats 4000000 in
set_option maxRecDepth 100000 in
theorem wX10_chosen {p : Program} {l : Launch} {e : Env} {s : State} {m : MethodId} {args : Array Value} {below : List Frame} {meth : Method} {c : Code} {P : PT} {N : Nat}  {r9 : Int32} {M9 : Mm} (hX : Cy p s m args c meth cX10_chosen 4 RX10 "chosen" (some .int) P)  (M : Mm) (a0 : Nat) (a1 : Int32) (a2 : Int32) (h : fX10_chosen N M a0 a1 a2 = some (r9, M9)) : Wq p l e s m args below meth c 6 0 (some (.int r9)) M9 4 P 0 0 [(0, .ref (pB P + a0)), (1, .int a1), (2, .int a2)] [] M := by
  unfold fX10_chosen at h
  obtain ⟨_, _, h⟩ := ob h
  have hX0 := hX
  obtain ⟨X, hr, hlk, hnm⟩ := hX0
  have hx := X.1.1
  have hb := X.1.2.1
  intro H locs ls hM hl
  refine lv_aload_n (pc := 0) hx hb dX10_chosen_0 rfl (lv_at hl 0 rfl) ?_
  obtain ⟨q1, e2, h⟩ := ob h
  refine bz_getQ (pc := 1) X hM fl_RX10_10 e2 dX10_chosen_1 ?_
  refine lv_iload_n (pc := 4) hx hb dX10_chosen_4 rfl (lv_at hl 1 rfl) ?_
  obtain ⟨r4, e3, h⟩ := ob h
  obtain ⟨fs5, hb6⟩ := (rX6_countingAt e3)
  refine bz_callV1 (pc := 5) (As := [.int a1]) (rest := []) X hM hl.1 k_RX10_239 (ctX6_countingAt l e3) rfl hb6 rfl rfl ⟨(Nat.le_of_ble_eq_true rfl), (Nat.le_of_ble_eq_true rfl)⟩ (Nat.le_of_ble_eq_true rfl) ⟨(Nat.le_of_ble_eq_true rfl), (Nat.le_of_ble_eq_true rfl)⟩ dX10_chosen_5 (fun H locs hM => ?_)
  refine bz_astore_nO (pc := 8) (lv' := [(3, rO P r4), (0, .ref (pB P + a0)), (1, .int a1), (2, .int a2)]) hx hb dX10_chosen_8 rfl hl (by decide) rfl (fun ls hl => ?_)
  refine bz_aload_nO (pc := 9) hx hb dX10_chosen_9 rfl (lv_at hl 0 rfl) ?_
  refine bz_ifnullO (pc := 10) (tgt := 20) hx hb dX10_chosen_10 (by decide) (fun hc => ?_) (fun q7 hc => ?_)
  · subst hc
    have h := om_n rfl h
    have hl : lv_has ls 4 [(3, .null), (0, .ref (pB P + a0)), (1, .int a1), (2, .int a2)] := hl
    exact wjX10_chosen_20 hX _ _ h H locs ls hM (lv_sub hl [1] rfl)
  · subst hc
    have h := om_s rfl h
    have hl : lv_has ls 4 [(3, .ref (pB P + q7)), (0, .ref (pB P + a0)), (1, .int a1), (2, .int a2)] := hl
    refine lv_iload_n (pc := 13) hx hb dX10_chosen_13 rfl (lv_at hl 3 rfl) ?_
    obtain ⟨v9, e8, h⟩ := ob h
    refine bz_callS1 (pc := 14) (As := [.int a2]) (rest := []) X hM hl.1 k_RX10_260 (ctX10_isSlides l e8) rfl rfl ⟨(Nat.le_of_ble_eq_true rfl), (Nat.le_of_ble_eq_true rfl)⟩ (Nat.le_of_ble_eq_true rfl) ⟨(Nat.le_of_ble_eq_true rfl), (Nat.le_of_ble_eq_true rfl)⟩ dX10_chosen_14 (fun H locs hM => ?_)
    refine lv_if_ne (pc := 17) (tgt := 26) hx hb dX10_chosen_17 (by decide) (fun hc => ?_) (fun hc => ?_)
    · have h := if_f hc h
      refine lv_aload_n (pc := 26) hx hb dX10_chosen_26 rfl (lv_at hl 1 rfl) ?_
      obtain ⟨q10, e11, h⟩ := ob h
      refine bz_getQ (pc := 27) X hM fl_RX10_10 e11 dX10_chosen_27 ?_
      obtain ⟨q12, e13, h⟩ := ob h
      refine bz_getQ (pc := 30) X hM fl_RX10_280 e13 dX10_chosen_30 ?_
      obtain ⟨v15, e14, h⟩ := ob h
      obtain ⟨fs16, hb17⟩ := (rX3_size e14)
      refine bz_callV1 (pc := 33) (As := []) (rest := []) X hM hl.1 k_RX10_96 (ctX3_size l e14) rfl hb17 rfl rfl ⟨(Nat.le_of_ble_eq_true rfl), (Nat.le_of_ble_eq_true rfl)⟩ (Nat.le_of_ble_eq_true rfl) ⟨(Nat.le_of_ble_eq_true rfl), (Nat.le_of_ble_eq_true rfl)⟩ dX10_chosen_33 (fun H locs hM => ?_)
      refine lv_if_ne (pc := 36) (tgt := 45) hx hb dX10_chosen_36 (by decide) (fun hc => ?_) (fun hc => ?_)
      · have h := if_f hc h
        refine lv_aload_n (pc := 45) hx hb dX10_chosen_45 rfl (lv_at hl 1 rfl) ?_
        obtain ⟨q18, e19, h⟩ := ob h
        refine bz_getQ (pc := 46) X hM fl_RX10_42 e19 dX10_chosen_46 ?_
        refine lv_aload_n (pc := 49) hx hb dX10_chosen_49 rfl (lv_at hl 1 rfl) ?_
        obtain ⟨q20, e21, h⟩ := ob h
        refine bz_getQ (pc := 50) X hM fl_RX10_10 e21 dX10_chosen_50 ?_
        refine lv_aload_n (pc := 53) hx hb dX10_chosen_53 rfl (lv_at hl 0 rfl) ?_
        obtain ⟨v22, e23, h⟩ := ob h
        refine bz_getI (pc := 54) X hM fl_RX10_250 e23 dX10_chosen_54 ?_
        obtain ⟨M25, e24, h⟩ := ob h
        obtain ⟨fs26, hb27⟩ := (rX1_hear e24)
        refine bz_callV0 (pc := 57) (As := [.ref (pB P + q20), .int v22]) (rest := []) X hM hl.1 k_RX10_217 (ctX1_hear l e24) rfl hb27 rfl rfl ⟨(Nat.le_of_ble_eq_true rfl), (Nat.le_of_ble_eq_true rfl)⟩ (Nat.le_of_ble_eq_true rfl) ⟨(Nat.le_of_ble_eq_true rfl), (Nat.le_of_ble_eq_true rfl)⟩ dX10_chosen_57 (fun H locs hM => ?_)
        refine lv_aload_n (pc := 60) hx hb dX10_chosen_60 rfl (lv_at hl 1 rfl) ?_
        obtain ⟨q28, e29, h⟩ := ob h
        refine bz_getQ (pc := 61) X hM fl_RX10_56 e29 dX10_chosen_61 ?_
        refine lv_aload_n (pc := 64) hx hb dX10_chosen_64 rfl (lv_at hl 1 rfl) ?_
        obtain ⟨q30, e31, h⟩ := ob h
        refine bz_getQ (pc := 65) X hM fl_RX10_42 e31 dX10_chosen_65 ?_
        refine lv_aload_n (pc := 68) hx hb dX10_chosen_68 rfl (lv_at hl 0 rfl) ?_
        refine lv_aload_n (pc := 69) hx hb dX10_chosen_69 rfl (lv_at hl 1 rfl) ?_
        obtain ⟨q32, e33, h⟩ := ob h
        refine bz_getQ (pc := 70) X hM fl_RX10_10 e33 dX10_chosen_70 ?_
        obtain ⟨q34, e35, h⟩ := ob h
        refine bz_getQ (pc := 73) X hM fl_RX10_280 e35 dX10_chosen_73 ?_
        refine lv_iload_n (pc := 76) hx hb dX10_chosen_76 rfl (lv_at hl 3 rfl) ?_
        obtain ⟨v37, M38, e36, h⟩ := ob2 h
        obtain ⟨fs39, hb40⟩ := (rX5_takeLines e36)
        refine bz_callV1 (pc := 77) (As := [.ref (pB P + q30), .ref (pB P + q7), .ref (pB P + q34), .int a2]) (rest := []) X hM hl.1 k_RX10_283 (ctX5_takeLines l e36) rfl hb40 rfl rfl ⟨(Nat.le_of_ble_eq_true rfl), (Nat.le_of_ble_eq_true rfl)⟩ (Nat.le_of_ble_eq_true rfl) ⟨(Nat.le_of_ble_eq_true rfl), (Nat.le_of_ble_eq_true rfl)⟩ dX10_chosen_77 (fun H locs hM => ?_)
        obtain ⟨rfl, rfl⟩ := so2 h
        exact bz_iret (pc := 80) X hM hr hlk dX10_chosen_80 (Nat.le_of_ble_eq_true rfl) (Nat.le_of_ble_eq_true rfl)
      · have h := if_t hc h
        refine lv_aload_n (pc := 39) hx hb dX10_chosen_39 rfl (lv_at hl 1 rfl) ?_
        refine lv_iconst (pc := 40) (v := (2 : Int32)) hx hb dX10_chosen_40 (by decide) ?_
        obtain ⟨v42, M43, e41, h⟩ := ob2 h
        obtain ⟨fs44, hb45⟩ := (rX10_error e41)
        refine bz_callV1 (pc := 41) (As := [.int (2 : Int32)]) (rest := []) X hM hl.1 k_RX10_78 (ctX10_error l e41) rfl hb45 rfl rfl ⟨(Nat.le_of_ble_eq_true rfl), (Nat.le_of_ble_eq_true rfl)⟩ (Nat.le_of_ble_eq_true rfl) ⟨(Nat.le_of_ble_eq_true rfl), (Nat.le_of_ble_eq_true rfl)⟩ dX10_chosen_41 (fun H locs hM => ?_)
        obtain ⟨rfl, rfl⟩ := so2 h
        exact bz_iret (pc := 44) X hM hr hlk dX10_chosen_44 (Nat.le_of_ble_eq_true rfl) (Nat.le_of_ble_eq_true rfl)
    · have h := if_t hc h
      exact wjX10_chosen_20 hX _ _ h H locs ls hM (lv_sub hl [1] rfl)
theorem rX10_chosen {N : Nat} {M : Mm} {a0 : Nat} {a1 : Int32} {a2 : Int32} {r9 : Int32 × Mm} (h : fX10_chosen N M a0 a1 a2 = some r9) : ∃ fs, M[a0]? = some (.inr (10, fs)) := by
  unfold fX10_chosen at h
  obtain ⟨_, e1, _⟩ := ob h
  exact gC_spec e1
theorem ctX10_chosen (l : Launch) {P : PT} {N : Nat} {M : Mm} {a0 : Nat} {a1 : Int32} {a2 : Int32} {r9 : Int32} {M9 : Mm} (h : fX10_chosen N M a0 a1 a2 = some (r9, M9)) : Ct l yX10_chosen cX10_chosen 4 (some .int) 6 0 P [.ref (pB P + a0), .int a1, .int a2] M (some (.int r9)) M9 :=
  Ct.mk (by decide +kernel) (Nat.le_of_ble_eq_true rfl) (fun p e s m args below meth c hX => wX10_chosen hX M a0 a1 a2 h)
set_option maxHeartbeats 4000000 in
set_option maxRecDepth 100000 in
theorem wBX11_findScores_89 {p : Program} {l : Launch} {e : Env} {s : State} {m : MethodId} {args : Array Value} {below : List Frame} {meth : Method} {c : Code} {P : PT} {N : Nat} {K6 : Mm → Nat → Int32 → Int32 → Int32 → Option (Mm)} {K89 : Mm → Nat → Int32 → Int32 → Int32 → Int32 → Int32 → Option (Mm)}  {M9 : Mm} (hX : Cy p s m args c meth cX11_findScores 6 RX11 "findScores" none P)  (hK6 : ∀ (M : Mm) (x0 : Nat) (x1 : Int32) (x2 : Int32) (x3 : Int32), K6 M x0 x1 x2 x3 = some M9 → Wq p l e s m args below meth c 5 0 none M9 6 P 0 6 [(0, .ref (pB P + x0)), (1, .int x1), (2, .int x2), (3, .int x3)] [] M) (hK89 : ∀ (M : Mm) (x0 : Nat) (x1 : Int32) (x2 : Int32) (x3 : Int32) (x4 : Int32) (x5 : Int32), K89 M x0 x1 x2 x3 x4 x5 = some M9 → Wq p l e s m args below meth c 5 0 none M9 6 P 0 89 [(0, .ref (pB P + x0)), (1, .int x1), (2, .int x2), (3, .int x3), (4, .int x4), (5, .int x5)] [] M) (M : Mm) (x0 : Nat) (x1 : Int32) (x2 : Int32) (x3 : Int32) (x4 : Int32) (x5 : Int32)  (h : BX11_findScores_89 N K6 K89 M x0 x1 x2 x3 x4 x5 = some M9) : Wq p l e s m args below meth c 5 0 none M9 6 P 0 89 [(0, .ref (pB P + x0)), (1, .int x1), (2, .int x2), (3, .int x3), (4, .int x4), (5, .int x5)] [] M := by
  unfold BX11_findScores_89 at h
  have hX0 := hX
  obtain ⟨X, hr, hlk, hnm⟩ := hX0
  have hx := X.1.1
  have hb := X.1.2.1
  intro H locs ls hM hl
  refine lv_iload (pc := 89) hx hb dX11_findScores_89 (lv_at hl 5 rfl) ?_
  refine lv_iload_n (pc := 91) hx hb dX11_findScores_91 rfl (lv_at hl 2 rfl) ?_
  refine lv_icmp_gt (pc := 92) (tgt := 125) hx hb dX11_findScores_92 (by decide) (fun hc => ?_) (fun hc => ?_)
  · have h := if_t hc h
    refine lv_iinc (pc := 125) (v := (x3 + (1 : Int32))) (lv' := [(3, .int (x3 + (1 : Int32))), (0, .ref (pB P + x0)), (1, .int x1), (2, .int x2), (4, .int x4), (5, .int x5)]) hx hb dX11_findScores_125 hl (k := 3) rfl rfl (by decide) rfl (fun ls hl => ?_)
    refine lv_goto (pc := 128) (tgt := 6) hx hb dX11_findScores_128 (by decide) ?_
    exact hK6 _ _ _ _ _ h H locs ls hM (lv_sub hl [1, 2, 3, 0] rfl)
  · have h := if_f hc h
    refine lv_aload_n (pc := 95) hx hb dX11_findScores_95 rfl (lv_at hl 0 rfl) ?_
    obtain ⟨q1, e2, h⟩ := ob h
    refine bz_getQ (pc := 96) X hM fl_RX11_47 e2 dX11_findScores_96 ?_
    refine lv_bipush (pc := 99) (v := (41 : Int32)) hx hb dX11_findScores_99 (by decide) ?_
    refine lv_iload_n (pc := 101) hx hb dX11_findScores_101 rfl (lv_at hl 3 rfl) ?_
    refine lv_imul (pc := 102) hx hb dX11_findScores_102 ?_
    refine lv_iload (pc := 103) hx hb dX11_findScores_103 (lv_at hl 5 rfl) ?_
    refine lv_iadd (pc := 105) hx hb dX11_findScores_105 ?_
    refine lv_iload_n (pc := 106) hx hb dX11_findScores_106 rfl (lv_at hl 2 rfl) ?_
    refine lv_aload_n (pc := 107) hx hb dX11_findScores_107 rfl (lv_at hl 0 rfl) ?_
    obtain ⟨q3, e4, h⟩ := ob h
    refine bz_getQ (pc := 108) X hM fl_RX11_44 e4 dX11_findScores_108 ?_
    refine lv_iload (pc := 111) hx hb dX11_findScores_111 (lv_at hl 5 rfl) ?_
    obtain ⟨v5, e6, h⟩ := ob h
    refine bz_iald (pc := 113) X hM e6 dX11_findScores_113 ?_
    refine lv_imul (pc := 114) hx hb dX11_findScores_114 ?_
    refine lv_iload (pc := 115) hx hb dX11_findScores_115 (lv_at hl 4 rfl) ?_
    refine lv_isub (pc := 117) hx hb dX11_findScores_117 ?_
    obtain ⟨M7, e8, h⟩ := ob h
    refine bz_iast (pc := 118) X hM e8 dX11_findScores_118 (fun H locs hM => ?_)
    refine lv_iinc (pc := 119) (v := (x5 + (1 : Int32))) (lv' := [(5, .int (x5 + (1 : Int32))), (0, .ref (pB P + x0)), (1, .int x1), (2, .int x2), (3, .int x3), (4, .int x4)]) hx hb dX11_findScores_119 hl (k := 5) rfl rfl (by decide) rfl (fun ls hl => ?_)
    refine lv_goto (pc := 122) (tgt := 89) hx hb dX11_findScores_122 (by decide) ?_
    exact hK89 _ _ _ _ _ _ _ h H locs ls hM (lv_sub hl [1, 2, 3, 4, 5, 0] rfl)
set_option maxHeartbeats 4000000 in
set_option maxRecDepth 100000 in
theorem wLX11_findScores_89 {p : Program} {l : Launch} {e : Env} {s : State} {m : MethodId} {args : Array Value} {below : List Frame} {meth : Method} {c : Code} {P : PT} {N : Nat} {K6 : Mm → Nat → Int32 → Int32 → Int32 → Option (Mm)}  {M9 : Mm} (hX : Cy p s m args c meth cX11_findScores 6 RX11 "findScores" none P)  (hK6 : ∀ (M : Mm) (x0 : Nat) (x1 : Int32) (x2 : Int32) (x3 : Int32), K6 M x0 x1 x2 x3 = some M9 → Wq p l e s m args below meth c 5 0 none M9 6 P 0 6 [(0, .ref (pB P + x0)), (1, .int x1), (2, .int x2), (3, .int x3)] [] M) : ∀ (n : Nat) (M : Mm) (x0 : Nat) (x1 : Int32) (x2 : Int32) (x3 : Int32) (x4 : Int32) (x5 : Int32) , LX11_findScores_89 N K6 n M x0 x1 x2 x3 x4 x5 = some M9 → Wq p l e s m args below meth c 5 0 none M9 6 P 0 89 [(0, .ref (pB P + x0)), (1, .int x1), (2, .int x2), (3, .int x3), (4, .int x4), (5, .int x5)] [] M := by
  intro n
  induction n with
  | zero => intro M x0 x1 x2 x3 x4 x5 h; cases h
  | succ n ih => intro M x0 x1 x2 x3 x4 x5 h; exact wBX11_findScores_89 hX hK6 ih M x0 x1 x2 x3 x4 x5 h
set_option maxHeartbeats 4000000 in
set_option maxRecDepth 100000 in
theorem wBX11_findScores_22 {p : Program} {l : Launch} {e : Env} {s : State} {m : MethodId} {args : Array Value} {below : List Frame} {meth : Method} {c : Code} {P : PT} {N : Nat} {K6 : Mm → Nat → Int32 → Int32 → Int32 → Option (Mm)} {K22 : Mm → Nat → Int32 → Int32 → Int32 → Int32 → Int32 → Option (Mm)}  {M9 : Mm} (hX : Cy p s m args c meth cX11_findScores 6 RX11 "findScores" none P)  (hK6 : ∀ (M : Mm) (x0 : Nat) (x1 : Int32) (x2 : Int32) (x3 : Int32), K6 M x0 x1 x2 x3 = some M9 → Wq p l e s m args below meth c 5 0 none M9 6 P 0 6 [(0, .ref (pB P + x0)), (1, .int x1), (2, .int x2), (3, .int x3)] [] M) (hK22 : ∀ (M : Mm) (x0 : Nat) (x1 : Int32) (x2 : Int32) (x3 : Int32) (x4 : Int32) (x5 : Int32), K22 M x0 x1 x2 x3 x4 x5 = some M9 → Wq p l e s m args below meth c 5 0 none M9 6 P 0 22 [(0, .ref (pB P + x0)), (1, .int x1), (2, .int x2), (3, .int x3), (4, .int x4), (5, .int x5)] [] M) (M : Mm) (x0 : Nat) (x1 : Int32) (x2 : Int32) (x3 : Int32) (x4 : Int32) (x5 : Int32)  (h : BX11_findScores_22 N K6 K22 M x0 x1 x2 x3 x4 x5 = some M9) : Wq p l e s m args below meth c 5 0 none M9 6 P 0 22 [(0, .ref (pB P + x0)), (1, .int x1), (2, .int x2), (3, .int x3), (4, .int x4), (5, .int x5)] [] M := by
  unfold BX11_findScores_22 at h
  have hX0 := hX
  obtain ⟨X, hr, hlk, hnm⟩ := hX0
  have hx := X.1.1
  have hb := X.1.2.1
  intro H locs ls hM hl
  refine lv_iload (pc := 22) hx hb dX11_findScores_22 (lv_at hl 5 rfl) ?_
  refine lv_iload_n (pc := 24) hx hb dX11_findScores_24 rfl (lv_at hl 2 rfl) ?_
  refine lv_icmp_gt (pc := 25) (tgt := 86) hx hb dX11_findScores_25 (by decide) (fun hc => ?_) (fun hc => ?_)
  · have h := if_t hc h
    refine lv_iconst (pc := 86) (v := (0 : Int32)) hx hb dX11_findScores_86 (by decide) ?_
    refine lv_istore (pc := 87) (lv' := [(5, .int (0 : Int32)), (0, .ref (pB P + x0)), (1, .int x1), (2, .int x2), (3, .int x3), (4, .int x4)]) hx hb dX11_findScores_87 hl (by decide) rfl (fun ls hl => ?_)
    exact wLX11_findScores_89 hX hK6 _ _ _ _ _ _ _ _ h H locs ls hM (lv_sub hl [1, 2, 3, 4, 5, 0] rfl)
  · have h := if_f hc h
    refine lv_aload_n (pc := 28) hx hb dX11_findScores_28 rfl (lv_at hl 0 rfl) ?_
    obtain ⟨q1, e2, h⟩ := ob h
    refine bz_getQ (pc := 29) X hM fl_RX11_44 e2 dX11_findScores_29 ?_
    refine lv_iload (pc := 32) hx hb dX11_findScores_32 (lv_at hl 5 rfl) ?_
    refine lv_aload_n (pc := 34) hx hb dX11_findScores_34 rfl (lv_at hl 0 rfl) ?_
    refine lv_iload_n (pc := 35) hx hb dX11_findScores_35 rfl (lv_at hl 1 rfl) ?_
    refine lv_aload_n (pc := 36) hx hb dX11_findScores_36 rfl (lv_at hl 0 rfl) ?_
    obtain ⟨q3, e4, h⟩ := ob h
    refine bz_getQ (pc := 37) X hM fl_RX11_9 e4 dX11_findScores_37 ?_
    refine lv_sipush (pc := 40) (v := (366 : Int32)) hx hb dX11_findScores_40 (by decide) ?_
    refine lv_iload_n (pc := 43) hx hb dX11_findScores_43 rfl (lv_at hl 3 rfl) ?_
    refine lv_iadd (pc := 44) hx hb dX11_findScores_44 ?_
    obtain ⟨v5, e6, h⟩ := ob h
    refine bz_iald (pc := 45) X hM e6 dX11_findScores_45 ?_
    refine lv_iload (pc := 46) hx hb dX11_findScores_46 (lv_at hl 5 rfl) ?_
    refine lv_aload_n (pc := 48) hx hb dX11_findScores_48 rfl (lv_at hl 0 rfl) ?_
    refine lv_iload_n (pc := 49) hx hb dX11_findScores_49 rfl (lv_at hl 1 rfl) ?_
    refine lv_iconst (pc := 50) (v := (4 : Int32)) hx hb dX11_findScores_50 (by decide) ?_
    obtain ⟨v8, e7, h⟩ := ob h
    obtain ⟨fs9, hb10⟩ := (rX11_of e7)
    refine bz_callV1 (pc := 51) (As := [.int x1, .int (4 : Int32)]) (rest := [.int x5, .int v5, .int x1, .ref (pB P + x0), .int x5, .ref (pB P + q1)]) X hM hl.1 k_RX11_222 (ctX11_of l e7) rfl hb10 rfl rfl ⟨(Nat.le_of_ble_eq_true rfl), (Nat.le_of_ble_eq_true rfl)⟩ (Nat.le_of_ble_eq_true rfl) ⟨(Nat.le_of_ble_eq_true rfl), (Nat.le_of_ble_eq_true rfl)⟩ dX11_findScores_51 (fun H locs hM => ?_)
    refine lv_imul (pc := 54) hx hb dX11_findScores_54 ?_
    obtain ⟨v12, e11, h⟩ := ob h
    obtain ⟨fs13, hb14⟩ := (rX11_slid e11)
    refine bz_callV1 (pc := 55) (As := [.int x1, .int v5, .int (x5 * v8)]) (rest := [.int x5, .ref (pB P + q1)]) X hM hl.1 k_RX11_228 (ctX11_slid l e11) rfl hb14 rfl rfl ⟨(Nat.le_of_ble_eq_true rfl), (Nat.le_of_ble_eq_true rfl)⟩ (Nat.le_of_ble_eq_true rfl) ⟨(Nat.le_of_ble_eq_true rfl), (Nat.le_of_ble_eq_true rfl)⟩ dX11_findScores_55 (fun H locs hM => ?_)
    obtain ⟨M15, e16, h⟩ := ob h
    refine bz_iast (pc := 58) X hM e16 dX11_findScores_58 (fun H locs hM => ?_)
    refine lv_iload (pc := 59) hx hb dX11_findScores_59 (lv_at hl 4 rfl) ?_
    refine lv_iload (pc := 61) hx hb dX11_findScores_61 (lv_at hl 5 rfl) ?_
    refine lv_if_le (pc := 63) (tgt := 76) hx hb dX11_findScores_63 (by decide) (fun hc => ?_) (fun hc => ?_)
    · have h := if_t hc h
      refine lv_iconst (pc := 76) (v := (0 : Int32)) hx hb dX11_findScores_76 (by decide) ?_
      refine lv_iadd (pc := 77) hx hb dX11_findScores_77 ?_
      refine lv_istore (pc := 78) (lv' := [(4, .int (x4 + (0 : Int32))), (0, .ref (pB P + x0)), (1, .int x1), (2, .int x2), (3, .int x3), (5, .int x5)]) hx hb dX11_findScores_78 hl (by decide) rfl (fun ls hl => ?_)
      refine lv_iinc (pc := 80) (v := (x5 + (1 : Int32))) (lv' := [(5, .int (x5 + (1 : Int32))), (4, .int (x4 + (0 : Int32))), (0, .ref (pB P + x0)), (1, .int x1), (2, .int x2), (3, .int x3)]) hx hb dX11_findScores_80 hl (k := 5) rfl rfl (by decide) rfl (fun ls hl => ?_)
      refine lv_goto (pc := 83) (tgt := 22) hx hb dX11_findScores_83 (by decide) ?_
      exact hK22 _ _ _ _ _ _ _ h H locs ls hM (lv_sub hl [2, 3, 4, 5, 1, 0] rfl)
    · have h := if_f hc h
      refine lv_aload_n (pc := 66) hx hb dX11_findScores_66 rfl (lv_at hl 0 rfl) ?_
      obtain ⟨q17, e18, h⟩ := ob h
      refine bz_getQ (pc := 67) X hM fl_RX11_44 e18 dX11_findScores_67 ?_
      refine lv_iload (pc := 70) hx hb dX11_findScores_70 (lv_at hl 5 rfl) ?_
      obtain ⟨v19, e20, h⟩ := ob h
      refine bz_iald (pc := 72) X hM e20 dX11_findScores_72 ?_
      refine lv_goto (pc := 73) (tgt := 77) hx hb dX11_findScores_73 (by decide) ?_
      refine lv_iadd (pc := 77) hx hb dX11_findScores_77 ?_
      refine lv_istore (pc := 78) (lv' := [(4, .int (x4 + v19)), (0, .ref (pB P + x0)), (1, .int x1), (2, .int x2), (3, .int x3), (5, .int x5)]) hx hb dX11_findScores_78 hl (by decide) rfl (fun ls hl => ?_)
      refine lv_iinc (pc := 80) (v := (x5 + (1 : Int32))) (lv' := [(5, .int (x5 + (1 : Int32))), (4, .int (x4 + v19)), (0, .ref (pB P + x0)), (1, .int x1), (2, .int x2), (3, .int x3)]) hx hb dX11_findScores_80 hl (k := 5) rfl rfl (by decide) rfl (fun ls hl => ?_)
      refine lv_goto (pc := 83) (tgt := 22) hx hb dX11_findScores_83 (by decide) ?_
      exact hK22 _ _ _ _ _ _ _ h H locs ls hM (lv_sub hl [2, 3, 4, 5, 1, 0] rfl)
set_option maxHeartbeats 4000000 in
set_option maxRecDepth 100000 in
theorem wLX11_findScores_22 {p : Program} {l : Launch} {e : Env} {s : State} {m : MethodId} {args : Array Value} {below : List Frame} {meth : Method} {c : Code} {P : PT} {N : Nat} {K6 : Mm → Nat → Int32 → Int32 → Int32 → Option (Mm)}  {M9 : Mm} (hX : Cy p s m args c meth cX11_findScores 6 RX11 "findScores" none P)  (hK6 : ∀ (M : Mm) (x0 : Nat) (x1 : Int32) (x2 : Int32) (x3 : Int32), K6 M x0 x1 x2 x3 = some M9 → Wq p l e s m args below meth c 5 0 none M9 6 P 0 6 [(0, .ref (pB P + x0)), (1, .int x1), (2, .int x2), (3, .int x3)] [] M) : ∀ (n : Nat) (M : Mm) (x0 : Nat) (x1 : Int32) (x2 : Int32) (x3 : Int32) (x4 : Int32) (x5 : Int32) , LX11_findScores_22 N K6 n M x0 x1 x2 x3 x4 x5 = some M9 → Wq p l e s m args below meth c 5 0 none M9 6 P 0 22 [(0, .ref (pB P + x0)), (1, .int x1), (2, .int x2), (3, .int x3), (4, .int x4), (5, .int x5)] [] M := by
  intro n
  induction n with
  | zero => intro M x0 x1 x2 x3 x4 x5 h; cases h
  | succ n ih => intro M x0 x1 x2 x3 x4 x5 h; exact wBX11_findScores_22 hX hK6 ih M x0 x1 x2 x3 x4 x5 h
set_option maxHeartbeats 4000000 in
set_option maxRecDepth 100000 in
theorem wBX11_findScores_6 {p : Program} {l : Launch} {e : Env} {s : State} {m : MethodId} {args : Array Value} {below : List Frame} {meth : Method} {c : Code} {P : PT} {N : Nat} {K6 : Mm → Nat → Int32 → Int32 → Int32 → Option (Mm)}  {M9 : Mm} (hX : Cy p s m args c meth cX11_findScores 6 RX11 "findScores" none P)  (hK6 : ∀ (M : Mm) (x0 : Nat) (x1 : Int32) (x2 : Int32) (x3 : Int32), K6 M x0 x1 x2 x3 = some M9 → Wq p l e s m args below meth c 5 0 none M9 6 P 0 6 [(0, .ref (pB P + x0)), (1, .int x1), (2, .int x2), (3, .int x3)] [] M) (M : Mm) (x0 : Nat) (x1 : Int32) (x2 : Int32) (x3 : Int32)  (h : BX11_findScores_6 N K6 M x0 x1 x2 x3 = some M9) : Wq p l e s m args below meth c 5 0 none M9 6 P 0 6 [(0, .ref (pB P + x0)), (1, .int x1), (2, .int x2), (3, .int x3)] [] M := by
  unfold BX11_findScores_6 at h
  have hX0 := hX
  obtain ⟨X, hr, hlk, hnm⟩ := hX0
  have hx := X.1.1
  have hb := X.1.2.1
  intro H locs ls hM hl
  refine lv_iload_n (pc := 6) hx hb dX11_findScores_6 rfl (lv_at hl 3 rfl) ?_
  refine lv_aload_n (pc := 7) hx hb dX11_findScores_7 rfl (lv_at hl 0 rfl) ?_
  obtain ⟨q1, e2, h⟩ := ob h
  refine bz_getQ (pc := 8) X hM fl_RX11_9 e2 dX11_findScores_8 ?_
  refine lv_iconst (pc := 11) (v := (3 : Int32)) hx hb dX11_findScores_11 (by decide) ?_
  obtain ⟨v3, e4, h⟩ := ob h
  refine bz_iald (pc := 12) X hM e4 dX11_findScores_12 ?_
  refine lv_icmp_ge (pc := 13) (tgt := 131) hx hb dX11_findScores_13 (by decide) (fun hc => ?_) (fun hc => ?_)
  · have h := if_t hc h
    obtain rfl := so1 h
    exact bz_vret (pc := 131) X hM hr hlk dX11_findScores_131 (Nat.le_of_ble_eq_true rfl) (Nat.le_of_ble_eq_true rfl)
  · have h := if_f hc h
    refine lv_iconst (pc := 16) (v := (0 : Int32)) hx hb dX11_findScores_16 (by decide) ?_
    refine lv_istore (pc := 17) (lv' := [(4, .int (0 : Int32)), (0, .ref (pB P + x0)), (1, .int x1), (2, .int x2), (3, .int x3)]) hx hb dX11_findScores_17 hl (by decide) rfl (fun ls hl => ?_)
    refine lv_iconst (pc := 19) (v := (0 : Int32)) hx hb dX11_findScores_19 (by decide) ?_
    refine lv_istore (pc := 20) (lv' := [(5, .int (0 : Int32)), (4, .int (0 : Int32)), (0, .ref (pB P + x0)), (1, .int x1), (2, .int x2), (3, .int x3)]) hx hb dX11_findScores_20 hl (by decide) rfl (fun ls hl => ?_)
    exact wLX11_findScores_22 hX hK6 _ _ _ _ _ _ _ _ h H locs ls hM (lv_sub hl [2, 3, 4, 5, 1, 0] rfl)
set_option maxHeartbeats 4000000 in
set_option maxRecDepth 100000 in
theorem wLX11_findScores_6 {p : Program} {l : Launch} {e : Env} {s : State} {m : MethodId} {args : Array Value} {below : List Frame} {meth : Method} {c : Code} {P : PT} {N : Nat}  {M9 : Mm} (hX : Cy p s m args c meth cX11_findScores 6 RX11 "findScores" none P)   : ∀ (n : Nat) (M : Mm) (x0 : Nat) (x1 : Int32) (x2 : Int32) (x3 : Int32) , LX11_findScores_6 N n M x0 x1 x2 x3 = some M9 → Wq p l e s m args below meth c 5 0 none M9 6 P 0 6 [(0, .ref (pB P + x0)), (1, .int x1), (2, .int x2), (3, .int x3)] [] M := by
  intro n
  induction n with
  | zero => intro M x0 x1 x2 x3 h; cases h
  | succ n ih => intro M x0 x1 x2 x3 h; exact wBX11_findScores_6 hX ih M x0 x1 x2 x3 h
set_option maxHeartbeats 4000000 in
set_option maxRecDepth 100000 in
theorem wX11_findScores {p : Program} {l : Launch} {e : Env} {s : State} {m : MethodId} {args : Array Value} {below : List Frame} {meth : Method} {c : Code} {P : PT} {N : Nat}  {M9 : Mm} (hX : Cy p s m args c meth cX11_findScores 6 RX11 "findScores" none P)  (M : Mm) (a0 : Nat) (a1 : Int32) (a2 : Int32) (h : fX11_findScores N M a0 a1 a2 = some M9) : Wq p l e s m args below meth c 5 0 none M9 6 P 0 0 [(0, .ref (pB P + a0)), (1, .int a1), (2, .int a2)] [] M := by
  unfold fX11_findScores at h
  obtain ⟨_, _, h⟩ := ob h
  have hX0 := hX
  obtain ⟨X, hr, hlk, hnm⟩ := hX0
  have hx := X.1.1
  have hb := X.1.2.1
  intro H locs ls hM hl
  refine lv_aload_n (pc := 0) hx hb dX11_findScores_0 rfl (lv_at hl 0 rfl) ?_
  obtain ⟨M2, e1, h⟩ := ob h
  obtain ⟨fs3, hb4⟩ := (rX11_readAll e1)
  refine bz_callV0 (pc := 1) (As := []) (rest := []) X hM hl.1 k_RX11_120 (ctX11_readAll l e1) rfl hb4 rfl rfl ⟨(Nat.le_of_ble_eq_true rfl), (Nat.le_of_ble_eq_true rfl)⟩ (Nat.le_of_ble_eq_true rfl) ⟨(Nat.le_of_ble_eq_true rfl), (Nat.le_of_ble_eq_true rfl)⟩ dX11_findScores_1 (fun H locs hM => ?_)
  refine lv_iconst (pc := 4) (v := (0 : Int32)) hx hb dX11_findScores_4 (by decide) ?_
  refine lv_istore_n (pc := 5) (lv' := [(3, .int (0 : Int32)), (0, .ref (pB P + a0)), (1, .int a1), (2, .int a2)]) hx hb dX11_findScores_5 rfl hl (by decide) rfl (fun ls hl => ?_)
  exact wLX11_findScores_6 hX _ _ _ _ _ _ h H locs ls hM (lv_sub hl [1, 2, 3, 0] rfl)
theorem rX11_findScores {N : Nat} {M : Mm} {a0 : Nat} {a1 : Int32} {a2 : Int32} {r9 : Mm} (h : fX11_findScores N M a0 a1 a2 = some r9) : ∃ fs, M[a0]? = some (.inr (11, fs)) := by
  unfold fX11_findScores at h
  obtain ⟨_, e1, _⟩ := ob h
  exact gC_spec e1
theorem ctX11_findScores (l : Launch) {P : PT} {N : Nat} {M : Mm} {a0 : Nat} {a1 : Int32} {a2 : Int32} {M9 : Mm} (h : fX11_findScores N M a0 a1 a2 = some M9) : Ct l yX11_findScores cX11_findScores 6 none 5 0 P [.ref (pB P + a0), .int a1, .int a2] M none M9 :=
  Ct.mk (by decide +kernel) (Nat.le_of_ble_eq_true rfl) (fun p e s m args below meth c hX => wX11_findScores hX M a0 a1 a2 h)
set_option maxHeartbeats 4000000 in
set_option maxRecDepth 100000 in
theorem wBX11_greatest_4 {p : Program} {l : Launch} {e : Env} {s : State} {m : MethodId} {args : Array Value} {below : List Frame} {meth : Method} {c : Code} {P : PT} {N : Nat} {K4 : Mm → Nat → Int32 → Int32 → Int32 → Option (Int32)}  {r9 : Int32} (hX : Cy p s m args c meth cX11_greatest 4 RX11 "greatest" (some .int) P)  (hK4 : ∀ (M : Mm) (x0 : Nat) (x1 : Int32) (x2 : Int32) (x3 : Int32), K4 M x0 x1 x2 x3 = some r9 → Wq p l e s m args below meth c 0 0 (some (.int r9)) M 4 P 0 4 [(0, .ref (pB P + x0)), (1, .int x1), (2, .int x2), (3, .int x3)] [] M) (M : Mm) (x0 : Nat) (x1 : Int32) (x2 : Int32) (x3 : Int32)  (h : BX11_greatest_4 N K4 M x0 x1 x2 x3 = some r9) : Wq p l e s m args below meth c 0 0 (some (.int r9)) M 4 P 0 4 [(0, .ref (pB P + x0)), (1, .int x1), (2, .int x2), (3, .int x3)] [] M := by
  unfold BX11_greatest_4 at h
  have hX0 := hX
  obtain ⟨X, hr, hlk, hnm⟩ := hX0
  have hx := X.1.1
  have hb := X.1.2.1
  intro H locs ls hM hl
  refine lv_iload_n (pc := 4) hx hb dX11_greatest_4 rfl (lv_at hl 3 rfl) ?_
  refine lv_aload_n (pc := 5) hx hb dX11_greatest_5 rfl (lv_at hl 0 rfl) ?_
  obtain ⟨q1, e2, h⟩ := ob h
  refine bz_getQ (pc := 6) X hM fl_RX11_9 e2 dX11_greatest_6 ?_
  refine lv_iconst (pc := 9) (v := (3 : Int32)) hx hb dX11_greatest_9 (by decide) ?_
  obtain ⟨v3, e4, h⟩ := ob h
  refine bz_iald (pc := 10) X hM e4 dX11_greatest_10 ?_
  refine lv_icmp_ge (pc := 11) (tgt := 51) hx hb dX11_greatest_11 (by decide) (fun hc => ?_) (fun hc => ?_)
  · have h := if_t hc h
    refine lv_iload_n (pc := 51) hx hb dX11_greatest_51 rfl (lv_at hl 2 rfl) ?_
    obtain rfl := so1 h
    exact bz_iret (pc := 52) X hM hr hlk dX11_greatest_52 (Nat.le_of_ble_eq_true rfl) (Nat.le_of_ble_eq_true rfl)
  · have h := if_f hc h
    refine lv_aload_n (pc := 14) hx hb dX11_greatest_14 rfl (lv_at hl 0 rfl) ?_
    obtain ⟨q5, e6, h⟩ := ob h
    refine bz_getQ (pc := 15) X hM fl_RX11_47 e6 dX11_greatest_15 ?_
    refine lv_bipush (pc := 18) (v := (41 : Int32)) hx hb dX11_greatest_18 (by decide) ?_
    refine lv_iload_n (pc := 20) hx hb dX11_greatest_20 rfl (lv_at hl 3 rfl) ?_
    refine lv_imul (pc := 21) hx hb dX11_greatest_21 ?_
    refine lv_iload_n (pc := 22) hx hb dX11_greatest_22 rfl (lv_at hl 1 rfl) ?_
    refine lv_iadd (pc := 23) hx hb dX11_greatest_23 ?_
    obtain ⟨v7, e8, h⟩ := ob h
    refine bz_iald (pc := 24) X hM e8 dX11_greatest_24 ?_
    refine lv_aload_n (pc := 25) hx hb dX11_greatest_25 rfl (lv_at hl 0 rfl) ?_
    obtain ⟨q9, e10, h⟩ := ob h
    refine bz_getQ (pc := 26) X hM fl_RX11_47 e10 dX11_greatest_26 ?_
    refine lv_bipush (pc := 29) (v := (41 : Int32)) hx hb dX11_greatest_29 (by decide) ?_
    refine lv_iload_n (pc := 31) hx hb dX11_greatest_31 rfl (lv_at hl 2 rfl) ?_
    refine lv_imul (pc := 32) hx hb dX11_greatest_32 ?_
    refine lv_iload_n (pc := 33) hx hb dX11_greatest_33 rfl (lv_at hl 1 rfl) ?_
    refine lv_iadd (pc := 34) hx hb dX11_greatest_34 ?_
    obtain ⟨v11, e12, h⟩ := ob h
    refine bz_iald (pc := 35) X hM e12 dX11_greatest_35 ?_
    refine lv_icmp_le (pc := 36) (tgt := 43) hx hb dX11_greatest_36 (by decide) (fun hc => ?_) (fun hc => ?_)
    · have h := if_t hc h
      refine lv_iload_n (pc := 43) hx hb dX11_greatest_43 rfl (lv_at hl 2 rfl) ?_
      refine lv_istore_n (pc := 44) (lv' := [(2, .int x2), (0, .ref (pB P + x0)), (1, .int x1), (3, .int x3)]) hx hb dX11_greatest_44 rfl hl (by decide) rfl (fun ls hl => ?_)
      refine lv_iinc (pc := 45) (v := (x3 + (1 : Int32))) (lv' := [(3, .int (x3 + (1 : Int32))), (2, .int x2), (0, .ref (pB P + x0)), (1, .int x1)]) hx hb dX11_greatest_45 hl (k := 3) rfl rfl (by decide) rfl (fun ls hl => ?_)
      refine lv_goto (pc := 48) (tgt := 4) hx hb dX11_greatest_48 (by decide) ?_
      exact hK4 _ _ _ _ _ h H locs ls hM (lv_sub hl [2, 3, 1, 0] rfl)
    · have h := if_f hc h
      refine lv_iload_n (pc := 39) hx hb dX11_greatest_39 rfl (lv_at hl 3 rfl) ?_
      refine lv_goto (pc := 40) (tgt := 44) hx hb dX11_greatest_40 (by decide) ?_
      refine lv_istore_n (pc := 44) (lv' := [(2, .int x3), (0, .ref (pB P + x0)), (1, .int x1), (3, .int x3)]) hx hb dX11_greatest_44 rfl hl (by decide) rfl (fun ls hl => ?_)
      refine lv_iinc (pc := 45) (v := (x3 + (1 : Int32))) (lv' := [(3, .int (x3 + (1 : Int32))), (2, .int x3), (0, .ref (pB P + x0)), (1, .int x1)]) hx hb dX11_greatest_45 hl (k := 3) rfl rfl (by decide) rfl (fun ls hl => ?_)
      refine lv_goto (pc := 48) (tgt := 4) hx hb dX11_greatest_48 (by decide) ?_
      exact hK4 _ _ _ _ _ h H locs ls hM (lv_sub hl [2, 3, 1, 0] rfl)
set_option maxHeartbeats 4000000 in
set_option maxRecDepth 100000 in
theorem wLX11_greatest_4 {p : Program} {l : Launch} {e : Env} {s : State} {m : MethodId} {args : Array Value} {below : List Frame} {meth : Method} {c : Code} {P : PT} {N : Nat}  {r9 : Int32} (hX : Cy p s m args c meth cX11_greatest 4 RX11 "greatest" (some .int) P)   : ∀ (n : Nat) (M : Mm) (x0 : Nat) (x1 : Int32) (x2 : Int32) (x3 : Int32) , LX11_greatest_4 N n M x0 x1 x2 x3 = some r9 → Wq p l e s m args below meth c 0 0 (some (.int r9)) M 4 P 0 4 [(0, .ref (pB P + x0)), (1, .int x1), (2, .int x2), (3, .int x3)] [] M := by
  intro n
  induction n with
  | zero => intro M x0 x1 x2 x3 h; cases h
  | succ n ih => intro M x0 x1 x2 x3 h; exact wBX11_greatest_4 hX ih M x0 x1 x2 x3 h
set_option maxHeartbeats 4000000 in
set_option maxRecDepth 100000 in
theorem wX11_greatest {p : Program} {l : Launch} {e : Env} {s : State} {m : MethodId} {args : Array Value} {below : List Frame} {meth : Method} {c : Code} {P : PT} {N : Nat}  {r9 : Int32} (hX : Cy p s m args c meth cX11_greatest 4 RX11 "greatest" (some .int) P)  (M : Mm) (a0 : Nat) (a1 : Int32) (h : fX11_greatest N M a0 a1 = some r9) : Wq p l e s m args below meth c 0 0 (some (.int r9)) M 4 P 0 0 [(0, .ref (pB P + a0)), (1, .int a1)] [] M := by
  unfold fX11_greatest at h
  obtain ⟨_, _, h⟩ := ob h
  have hX0 := hX
  obtain ⟨X, hr, hlk, hnm⟩ := hX0
  have hx := X.1.1
  have hb := X.1.2.1
  intro H locs ls hM hl
  refine lv_iconst (pc := 0) (v := (0 : Int32)) hx hb dX11_greatest_0 (by decide) ?_
  refine lv_istore_n (pc := 1) (lv' := [(2, .int (0 : Int32)), (0, .ref (pB P + a0)), (1, .int a1)]) hx hb dX11_greatest_1 rfl hl (by decide) rfl (fun ls hl => ?_)
  refine lv_iconst (pc := 2) (v := (1 : Int32)) hx hb dX11_greatest_2 (by decide) ?_
  refine lv_istore_n (pc := 3) (lv' := [(3, .int (1 : Int32)), (2, .int (0 : Int32)), (0, .ref (pB P + a0)), (1, .int a1)]) hx hb dX11_greatest_3 rfl hl (by decide) rfl (fun ls hl => ?_)
  exact wLX11_greatest_4 hX _ _ _ _ _ _ h H locs ls hM (lv_sub hl [2, 3, 1, 0] rfl)
theorem rX11_greatest {N : Nat} {M : Mm} {a0 : Nat} {a1 : Int32} {r9 : Int32} (h : fX11_greatest N M a0 a1 = some r9) : ∃ fs, M[a0]? = some (.inr (11, fs)) := by
  unfold fX11_greatest at h
  obtain ⟨_, e1, _⟩ := ob h
  exact gC_spec e1
theorem ctX11_greatest (l : Launch) {P : PT} {N : Nat} {M : Mm} {a0 : Nat} {a1 : Int32} {r9 : Int32} (h : fX11_greatest N M a0 a1 = some r9) : Ct l yX11_greatest cX11_greatest 4 (some .int) 0 0 P [.ref (pB P + a0), .int a1] M (some (.int r9)) M :=
  Ct.mk (by decide +kernel) (Nat.le_of_ble_eq_true rfl) (fun p e s m args below meth c hX => wX11_greatest hX M a0 a1 h)
set_option maxHeartbeats 4000000 in
set_option maxRecDepth 100000 in
theorem wX11_chosen {p : Program} {l : Launch} {e : Env} {s : State} {m : MethodId} {args : Array Value} {below : List Frame} {meth : Method} {c : Code} {P : PT} {N : Nat}  {r9 : Int32} {M9 : Mm} (hX : Cy p s m args c meth cX11_chosen 3 RX11 "chosen" (some .int) P)  (M : Mm) (a0 : Nat) (a1 : Int32) (a2 : Int32) (h : fX11_chosen N M a0 a1 a2 = some (r9, M9)) : Wq p l e s m args below meth c 6 0 (some (.int r9)) M9 3 P 0 0 [(0, .ref (pB P + a0)), (1, .int a1), (2, .int a2)] [] M := by
  unfold fX11_chosen at h
  obtain ⟨_, _, h⟩ := ob h
  have hX0 := hX
  obtain ⟨X, hr, hlk, hnm⟩ := hX0
  have hx := X.1.1
  have hb := X.1.2.1
  intro H locs ls hM hl
  refine lv_aload_n (pc := 0) hx hb dX11_chosen_0 rfl (lv_at hl 0 rfl) ?_
  refine lv_iload_n (pc := 1) hx hb dX11_chosen_1 rfl (lv_at hl 1 rfl) ?_
  refine lv_iload_n (pc := 2) hx hb dX11_chosen_2 rfl (lv_at hl 2 rfl) ?_
  obtain ⟨v2, e1, h⟩ := ob h
  obtain ⟨fs3, hb4⟩ := (rX11_isAsked e1)
  refine bz_callV1 (pc := 3) (As := [.int a1, .int a2]) (rest := []) X hM hl.1 k_RX11_255 (ctX11_isAsked l e1) rfl hb4 rfl rfl ⟨(Nat.le_of_ble_eq_true rfl), (Nat.le_of_ble_eq_true rfl)⟩ (Nat.le_of_ble_eq_true rfl) ⟨(Nat.le_of_ble_eq_true rfl), (Nat.le_of_ble_eq_true rfl)⟩ dX11_chosen_3 (fun H locs hM => ?_)
  refine lv_if_ne (pc := 6) (tgt := 15) hx hb dX11_chosen_6 (by decide) (fun hc => ?_) (fun hc => ?_)
  · have h := if_f hc h
    refine lv_aload_n (pc := 15) hx hb dX11_chosen_15 rfl (lv_at hl 0 rfl) ?_
    obtain ⟨q5, e6, h⟩ := ob h
    refine bz_getQ (pc := 16) X hM fl_RX11_9 e6 dX11_chosen_16 ?_
    refine lv_iconst (pc := 19) (v := (3 : Int32)) hx hb dX11_chosen_19 (by decide) ?_
    obtain ⟨v7, e8, h⟩ := ob h
    refine bz_iald (pc := 20) X hM e8 dX11_chosen_20 ?_
    refine lv_if_ne (pc := 21) (tgt := 30) hx hb dX11_chosen_21 (by decide) (fun hc => ?_) (fun hc => ?_)
    · have h := if_f hc h
      refine lv_aload_n (pc := 30) hx hb dX11_chosen_30 rfl (lv_at hl 0 rfl) ?_
      refine lv_iload_n (pc := 31) hx hb dX11_chosen_31 rfl (lv_at hl 1 rfl) ?_
      refine lv_iload_n (pc := 32) hx hb dX11_chosen_32 rfl (lv_at hl 2 rfl) ?_
      obtain ⟨M10, e9, h⟩ := ob h
      obtain ⟨fs11, hb12⟩ := (rX11_findScores e9)
      refine bz_callV0 (pc := 33) (As := [.int a1, .int a2]) (rest := []) X hM hl.1 k_RX11_266 (ctX11_findScores l e9) rfl hb12 rfl rfl ⟨(Nat.le_of_ble_eq_true rfl), (Nat.le_of_ble_eq_true rfl)⟩ (Nat.le_of_ble_eq_true rfl) ⟨(Nat.le_of_ble_eq_true rfl), (Nat.le_of_ble_eq_true rfl)⟩ dX11_chosen_33 (fun H locs hM => ?_)
      refine lv_aload_n (pc := 36) hx hb dX11_chosen_36 rfl (lv_at hl 0 rfl) ?_
      refine lv_iconst (pc := 37) (v := (0 : Int32)) hx hb dX11_chosen_37 (by decide) ?_
      obtain ⟨v14, e13, h⟩ := ob h
      obtain ⟨fs15, hb16⟩ := (rX11_greatest e13)
      refine bz_callV1 (pc := 38) (As := [.int (0 : Int32)]) (rest := []) X hM hl.1 k_RX11_270 (ctX11_greatest l e13) rfl hb16 rfl rfl ⟨(Nat.le_of_ble_eq_true rfl), (Nat.le_of_ble_eq_true rfl)⟩ (Nat.le_of_ble_eq_true rfl) ⟨(Nat.le_of_ble_eq_true rfl), (Nat.le_of_ble_eq_true rfl)⟩ dX11_chosen_38 (fun H locs hM => ?_)
      obtain ⟨rfl, rfl⟩ := so2 h
      exact bz_iret (pc := 41) X hM hr hlk dX11_chosen_41 (Nat.le_of_ble_eq_true rfl) (Nat.le_of_ble_eq_true rfl)
    · have h := if_t hc h
      refine lv_aload_n (pc := 24) hx hb dX11_chosen_24 rfl (lv_at hl 0 rfl) ?_
      refine lv_iconst (pc := 25) (v := (2 : Int32)) hx hb dX11_chosen_25 (by decide) ?_
      obtain ⟨v18, M19, e17, h⟩ := ob2 h
      obtain ⟨fs20, hb21⟩ := (rX11_error e17)
      refine bz_callV1 (pc := 26) (As := [.int (2 : Int32)]) (rest := []) X hM hl.1 k_RX11_73 (ctX11_error l e17) rfl hb21 rfl rfl ⟨(Nat.le_of_ble_eq_true rfl), (Nat.le_of_ble_eq_true rfl)⟩ (Nat.le_of_ble_eq_true rfl) ⟨(Nat.le_of_ble_eq_true rfl), (Nat.le_of_ble_eq_true rfl)⟩ dX11_chosen_26 (fun H locs hM => ?_)
      obtain ⟨rfl, rfl⟩ := so2 h
      exact bz_iret (pc := 29) X hM hr hlk dX11_chosen_29 (Nat.le_of_ble_eq_true rfl) (Nat.le_of_ble_eq_true rfl)
  · have h := if_t hc h
    refine lv_aload_n (pc := 9) hx hb dX11_chosen_9 rfl (lv_at hl 0 rfl) ?_
    refine lv_iconst (pc := 10) (v := (1 : Int32)) hx hb dX11_chosen_10 (by decide) ?_
    obtain ⟨v23, M24, e22, h⟩ := ob2 h
    obtain ⟨fs25, hb26⟩ := (rX11_error e22)
    refine bz_callV1 (pc := 11) (As := [.int (1 : Int32)]) (rest := []) X hM hl.1 k_RX11_73 (ctX11_error l e22) rfl hb26 rfl rfl ⟨(Nat.le_of_ble_eq_true rfl), (Nat.le_of_ble_eq_true rfl)⟩ (Nat.le_of_ble_eq_true rfl) ⟨(Nat.le_of_ble_eq_true rfl), (Nat.le_of_ble_eq_true rfl)⟩ dX11_chosen_11 (fun H locs hM => ?_)
    obtain ⟨rfl, rfl⟩ := so2 h
    exact bz_iret (pc := 14) X hM hr hlk dX11_chosen_14 (Nat.le_of_ble_eq_true rfl) (Nat.le_of_ble_eq_true rfl)
theorem rX11_chosen {N : Nat} {M : Mm} {a0 : Nat} {a1 : Int32} {a2 : Int32} {r9 : Int32 × Mm} (h : fX11_chosen N M a0 a1 a2 = some r9) : ∃ fs, M[a0]? = some (.inr (11, fs)) := by
  unfold fX11_chosen at h
  obtain ⟨_, e1, _⟩ := ob h
  exact gC_spec e1
theorem ctX11_chosen (l : Launch) {P : PT} {N : Nat} {M : Mm} {a0 : Nat} {a1 : Int32} {a2 : Int32} {r9 : Int32} {M9 : Mm} (h : fX11_chosen N M a0 a1 a2 = some (r9, M9)) : Ct l yX11_chosen cX11_chosen 3 (some .int) 6 0 P [.ref (pB P + a0), .int a1, .int a2] M (some (.int r9)) M9 :=
  Ct.mk (by decide +kernel) (Nat.le_of_ble_eq_true rfl) (fun p e s m args below meth c hX => wX11_chosen hX M a0 a1 a2 h)
set_option maxHeartbeats 4000000 in
set_option maxRecDepth 100000 in
theorem wBX5_noLess_4 {p : Program} {l : Launch} {e : Env} {s : State} {m : MethodId} {args : Array Value} {below : List Frame} {meth : Method} {c : Code} {P : PT} {N : Nat} {K4 : Mm → Nat → Int32 → Int32 → Option (Int32)}  {r9 : Int32} (hX : Cy p s m args c meth cX5_noLess 3 RX5 "noLess" (some .int) P)  (hK4 : ∀ (M : Mm) (x0 : Nat) (x1 : Int32) (x2 : Int32), K4 M x0 x1 x2 = some r9 → Wq p l e s m args below meth c 1 0 (some (.int r9)) M 3 P 0 4 [(0, .ref (pB P + x0)), (1, .int x1), (2, .int x2)] [] M) (M : Mm) (x0 : Nat) (x1 : Int32) (x2 : Int32)  (h : BX5_noLess_4 N K4 M x0 x1 x2 = some r9) : Wq p l e s m args below meth c 1 0 (some (.int r9)) M 3 P 0 4 [(0, .ref (pB P + x0)), (1, .int x1), (2, .int x2)] [] M := by
  unfold BX5_noLess_4 at h
  have hX0 := hX
  obtain ⟨X, hr, hlk, hnm⟩ := hX0
  have hx := X.1.1
  have hb := X.1.2.1
  intro H locs ls hM hl
  refine lv_iload_n (pc := 4) hx hb dX5_noLess_4 rfl (lv_at hl 2 rfl) ?_
  refine lv_aload_n (pc := 5) hx hb dX5_noLess_5 rfl (lv_at hl 0 rfl) ?_
  obtain ⟨v1, e2, h⟩ := ob h
  refine bz_getI (pc := 6) X hM fl_RX5_28 e2 dX5_noLess_6 ?_
  refine lv_icmp_gt (pc := 9) (tgt := 40) hx hb dX5_noLess_9 (by decide) (fun hc => ?_) (fun hc => ?_)
  · have h := if_t hc h
    refine lv_iload_n (pc := 40) hx hb dX5_noLess_40 rfl (lv_at hl 1 rfl) ?_
    obtain rfl := so1 h
    exact bz_iret (pc := 41) X hM hr hlk dX5_noLess_41 (Nat.le_of_ble_eq_true rfl) (Nat.le_of_ble_eq_true rfl)
  · have h := if_f hc h
    refine lv_aload_n (pc := 12) hx hb dX5_noLess_12 rfl (lv_at hl 0 rfl) ?_
    obtain ⟨q3, e4, h⟩ := ob h
    refine bz_getQ (pc := 13) X hM fl_RX5_20 e4 dX5_noLess_13 ?_
    refine lv_iload_n (pc := 16) hx hb dX5_noLess_16 rfl (lv_at hl 2 rfl) ?_
    obtain ⟨v6, e5, h⟩ := ob h
    obtain ⟨fs7, hb8⟩ := (rX3_at e5)
    refine bz_callV1 (pc := 17) (As := [.int x2]) (rest := []) X hM hl.1 k_RX5_54 (ctX3_at l e5) rfl hb8 rfl rfl ⟨(Nat.le_of_ble_eq_true rfl), (Nat.le_of_ble_eq_true rfl)⟩ (Nat.le_of_ble_eq_true rfl) ⟨(Nat.le_of_ble_eq_true rfl), (Nat.le_of_ble_eq_true rfl)⟩ dX5_noLess_17 (fun H locs hM => ?_)
    refine lv_aload_n (pc := 20) hx hb dX5_noLess_20 rfl (lv_at hl 0 rfl) ?_
    obtain ⟨q9, e10, h⟩ := ob h
    refine bz_getQ (pc := 21) X hM fl_RX5_20 e10 dX5_noLess_21 ?_
    refine lv_iconst (pc := 24) (v := (0 : Int32)) hx hb dX5_noLess_24 (by decide) ?_
    obtain ⟨v12, e11, h⟩ := ob h
    obtain ⟨fs13, hb14⟩ := (rX3_at e11)
    refine bz_callV1 (pc := 25) (As := [.int (0 : Int32)]) (rest := [.int v6]) X hM hl.1 k_RX5_54 (ctX3_at l e11) rfl hb14 rfl rfl ⟨(Nat.le_of_ble_eq_true rfl), (Nat.le_of_ble_eq_true rfl)⟩ (Nat.le_of_ble_eq_true rfl) ⟨(Nat.le_of_ble_eq_true rfl), (Nat.le_of_ble_eq_true rfl)⟩ dX5_noLess_25 (fun H locs hM => ?_)
    refine lv_icmp_lt (pc := 28) (tgt := 34) hx hb dX5_noLess_28 (by decide) (fun hc => ?_) (fun hc => ?_)
    · have h := if_t hc h
      refine lv_iinc (pc := 34) (v := (x2 + (1 : Int32))) (lv' := [(2, .int (x2 + (1 : Int32))), (0, .ref (pB P + x0)), (1, .int x1)]) hx hb dX5_noLess_34 hl (k := 2) rfl rfl (by decide) rfl (fun ls hl => ?_)
      refine lv_goto (pc := 37) (tgt := 4) hx hb dX5_noLess_37 (by decide) ?_
      exact hK4 _ _ _ _ h H locs ls hM (lv_sub hl [1, 2, 0] rfl)
    · have h := if_f hc h
      refine lv_iinc (pc := 31) (v := (x1 + (1 : Int32))) (lv' := [(1, .int (x1 + (1 : Int32))), (0, .ref (pB P + x0)), (2, .int x2)]) hx hb dX5_noLess_31 hl (k := 1) rfl rfl (by decide) rfl (fun ls hl => ?_)
      refine lv_iinc (pc := 34) (v := (x2 + (1 : Int32))) (lv' := [(2, .int (x2 + (1 : Int32))), (1, .int (x1 + (1 : Int32))), (0, .ref (pB P + x0))]) hx hb dX5_noLess_34 hl (k := 2) rfl rfl (by decide) rfl (fun ls hl => ?_)
      refine lv_goto (pc := 37) (tgt := 4) hx hb dX5_noLess_37 (by decide) ?_
      exact hK4 _ _ _ _ h H locs ls hM (lv_sub hl [2, 1, 0] rfl)
set_option maxHeartbeats 4000000 in
set_option maxRecDepth 100000 in
theorem wLX5_noLess_4 {p : Program} {l : Launch} {e : Env} {s : State} {m : MethodId} {args : Array Value} {below : List Frame} {meth : Method} {c : Code} {P : PT} {N : Nat}  {r9 : Int32} (hX : Cy p s m args c meth cX5_noLess 3 RX5 "noLess" (some .int) P)   : ∀ (n : Nat) (M : Mm) (x0 : Nat) (x1 : Int32) (x2 : Int32) , LX5_noLess_4 N n M x0 x1 x2 = some r9 → Wq p l e s m args below meth c 1 0 (some (.int r9)) M 3 P 0 4 [(0, .ref (pB P + x0)), (1, .int x1), (2, .int x2)] [] M := by
  intro n
  induction n with
  | zero => intro M x0 x1 x2 h; cases h
  | succ n ih => intro M x0 x1 x2 h; exact wBX5_noLess_4 hX ih M x0 x1 x2 h
set_option maxHeartbeats 4000000 in
set_option maxRecDepth 100000 in
theorem wX5_noLess {p : Program} {l : Launch} {e : Env} {s : State} {m : MethodId} {args : Array Value} {below : List Frame} {meth : Method} {c : Code} {P : PT} {N : Nat}  {r9 : Int32} (hX : Cy p s m args c meth cX5_noLess 3 RX5 "noLess" (some .int) P)  (M : Mm) (a0 : Nat) (h : fX5_noLess N M a0 = some r9) : Wq p l e s m args below meth c 1 0 (some (.int r9)) M 3 P 0 0 [(0, .ref (pB P + a0))] [] M := by
  unfold fX5_noLess at h
  obtain ⟨_, _, h⟩ := ob h
  have hX0 := hX
  obtain ⟨X, hr, hlk, hnm⟩ := hX0
  have hx := X.1.1
  have hb := X.1.2.1
  intro H locs ls hM hl
  refine lv_iconst (pc := 0) (v := (0 : Int32)) hx hb dX5_noLess_0 (by decide) ?_
  refine lv_istore_n (pc := 1) (lv' := [(1, .int (0 : Int32)), (0, .ref (pB P + a0))]) hx hb dX5_noLess_1 rfl hl (by decide) rfl (fun ls hl => ?_)
  refine lv_iconst (pc := 2) (v := (1 : Int32)) hx hb dX5_noLess_2 (by decide) ?_
  refine lv_istore_n (pc := 3) (lv' := [(2, .int (1 : Int32)), (1, .int (0 : Int32)), (0, .ref (pB P + a0))]) hx hb dX5_noLess_3 rfl hl (by decide) rfl (fun ls hl => ?_)
  exact wLX5_noLess_4 hX _ _ _ _ _ h H locs ls hM (lv_sub hl [2, 1, 0] rfl)
theorem rX5_noLess {N : Nat} {M : Mm} {a0 : Nat} {r9 : Int32} (h : fX5_noLess N M a0 = some r9) : ∃ fs, M[a0]? = some (.inr (5, fs)) := by
  unfold fX5_noLess at h
  obtain ⟨_, e1, _⟩ := ob h
  exact gC_spec e1
theorem ctX5_noLess (l : Launch) {P : PT} {N : Nat} {M : Mm} {a0 : Nat} {r9 : Int32} (h : fX5_noLess N M a0 = some r9) : Ct l yX5_noLess cX5_noLess 3 (some .int) 1 0 P [.ref (pB P + a0)] M (some (.int r9)) M :=
  Ct.mk (by decide +kernel) (Nat.le_of_ble_eq_true rfl) (fun p e s m args below meth c hX => wX5_noLess hX M a0 h)
set_option maxHeartbeats 4000000 in
set_option maxRecDepth 100000 in
theorem wjX10_paid_29 {p : Program} {l : Launch} {e : Env} {s : State} {m : MethodId} {args : Array Value} {below : List Frame} {meth : Method} {c : Code} {P : PT} {N : Nat}  {r9 : Int32} {M9 : Mm} (hX : Cy p s m args c meth cX10_paid 5 RX10 "paid" (some .int) P)   (M : Mm) (x0 : Nat)  (h : jX10_paid_29 N M x0 = some (r9, M9)) : Wq p l e s m args below meth c 6 0 (some (.int r9)) M9 5 P 0 29 [(0, .ref (pB P + x0))] [] M := by
  unfold jX10_paid_29 at h
  have hX0 := hX
  obtain ⟨X, hr, hlk, hnm⟩ := hX0
  have hx := X.1.1
  have hb := X.1.2.1
  intro H locs ls hM hl
  refine lv_aload_n (pc := 29) hx hb dX10_paid_29 rfl (lv_at hl 0 rfl) ?_
  refine lv_iconst (pc := 30) (v := (1 : Int32)) hx hb dX10_paid_30 (by decide) ?_
  obtain ⟨v2, M3, e1, h⟩ := ob2 h
  obtain ⟨fs4, hb5⟩ := (rX10_error e1)
  refine bz_callV1 (pc := 31) (As := [.int (1 : Int32)]) (rest := []) X hM hl.1 k_RX10_78 (ctX10_error l e1) rfl hb5 rfl rfl ⟨(Nat.le_of_ble_eq_true rfl), (Nat.le_of_ble_eq_true rfl)⟩ (Nat.le_of_ble_eq_true rfl) ⟨(Nat.le_of_ble_eq_true rfl), (Nat.le_of_ble_eq_true rfl)⟩ dX10_paid_31 (fun H locs hM => ?_)
  obtain ⟨rfl, rfl⟩ := so2 h
  exact bz_iret (pc := 34) X hM hr hlk dX10_paid_34 (Nat.le_of_ble_eq_true rfl) (Nat.le_of_ble_eq_true rfl)
set_option maxHeartbeats 4000000 in
set_option maxRecDepth 100000 in
theorem wX10_paid {p : Program} {l : Launch} {e : Env} {s : State} {m : MethodId} {args : Array Value} {below : List Frame} {meth : Method} {c : Code} {P : PT} {N : Nat}  {r9 : Int32} {M9 : Mm} (hX : Cy p s m args c meth cX10_paid 5 RX10 "paid" (some .int) P)  (M : Mm) (a0 : Nat) (a1 : Int32) (a2 : Int32) (a3 : Int32) (h : fX10_paid N M a0 a1 a2 a3 = some (r9, M9)) : Wq p l e s m args below meth c 6 0 (some (.int r9)) M9 5 P 0 0 [(0, .ref (pB P + a0)), (1, .int a1), (2, .int a2), (3, .int a3)] [] M := by
  unfold fX10_paid at h
  obtain ⟨_, _, h⟩ := ob h
  have hX0 := hX
  obtain ⟨X, hr, hlk, hnm⟩ := hX0
  have hx := X.1.1
  have hb := X.1.2.1
  intro H locs ls hM hl
  refine lv_aload_n (pc := 0) hx hb dX10_paid_0 rfl (lv_at hl 0 rfl) ?_
  obtain ⟨q1, e2, h⟩ := ob h
  refine bz_getQ (pc := 1) X hM fl_RX10_10 e2 dX10_paid_1 ?_
  refine lv_iload_n (pc := 4) hx hb dX10_paid_4 rfl (lv_at hl 1 rfl) ?_
  obtain ⟨r4, e3, h⟩ := ob h
  obtain ⟨fs5, hb6⟩ := (rX6_countingAt e3)
  refine bz_callV1 (pc := 5) (As := [.int a1]) (rest := []) X hM hl.1 k_RX10_239 (ctX6_countingAt l e3) rfl hb6 rfl rfl ⟨(Nat.le_of_ble_eq_true rfl), (Nat.le_of_ble_eq_true rfl)⟩ (Nat.le_of_ble_eq_true rfl) ⟨(Nat.le_of_ble_eq_true rfl), (Nat.le_of_ble_eq_true rfl)⟩ dX10_paid_5 (fun H locs hM => ?_)
  refine bz_astoreO (pc := 8) (lv' := [(4, rO P r4), (0, .ref (pB P + a0)), (1, .int a1), (2, .int a2), (3, .int a3)]) hx hb dX10_paid_8 hl (by decide) rfl (fun ls hl => ?_)
  refine bz_aloadO (pc := 10) hx hb dX10_paid_10 (lv_at hl 0 rfl) ?_
  refine bz_ifnullO (pc := 12) (tgt := 29) hx hb dX10_paid_12 (by decide) (fun hc => ?_) (fun q7 hc => ?_)
  · subst hc
    have h := om_n rfl h
    have hl : lv_has ls 5 [(4, .null), (0, .ref (pB P + a0)), (1, .int a1), (2, .int a2), (3, .int a3)] := hl
    exact wjX10_paid_29 hX _ _ h H locs ls hM (lv_sub hl [1] rfl)
  · subst hc
    have h := om_s rfl h
    have hl : lv_has ls 5 [(4, .ref (pB P + q7)), (0, .ref (pB P + a0)), (1, .int a1), (2, .int a2), (3, .int a3)] := hl
    refine lv_iload_n (pc := 15) hx hb dX10_paid_15 rfl (lv_at hl 3 rfl) ?_
    obtain ⟨v9, e8, h⟩ := ob h
    refine bz_callS1 (pc := 16) (As := [.int a2]) (rest := []) X hM hl.1 k_RX10_260 (ctX10_isSlides l e8) rfl rfl ⟨(Nat.le_of_ble_eq_true rfl), (Nat.le_of_ble_eq_true rfl)⟩ (Nat.le_of_ble_eq_true rfl) ⟨(Nat.le_of_ble_eq_true rfl), (Nat.le_of_ble_eq_true rfl)⟩ dX10_paid_16 (fun H locs hM => ?_)
    refine lv_if_eq (pc := 19) (tgt := 29) hx hb dX10_paid_19 (by decide) (fun hc => ?_) (fun hc => ?_)
    · have h := if_t hc h
      exact wjX10_paid_29 hX _ _ h H locs ls hM (lv_sub hl [1] rfl)
    · have h := if_f hc h
      refine lv_iload_n (pc := 22) hx hb dX10_paid_22 rfl (lv_at hl 4 rfl) ?_
      obtain ⟨v11, e10, h⟩ := ob h
      refine bz_callS1 (pc := 23) (As := [.int a3]) (rest := []) X hM hl.1 k_RX10_263 (ctX10_isPart l e10) rfl rfl ⟨(Nat.le_of_ble_eq_true rfl), (Nat.le_of_ble_eq_true rfl)⟩ (Nat.le_of_ble_eq_true rfl) ⟨(Nat.le_of_ble_eq_true rfl), (Nat.le_of_ble_eq_true rfl)⟩ dX10_paid_23 (fun H locs hM => ?_)
      refine lv_if_ne (pc := 26) (tgt := 35) hx hb dX10_paid_26 (by decide) (fun hc => ?_) (fun hc => ?_)
      · have h := if_f hc h
        refine lv_aload_n (pc := 35) hx hb dX10_paid_35 rfl (lv_at hl 1 rfl) ?_
        obtain ⟨q12, e13, h⟩ := ob h
        refine bz_getQ (pc := 36) X hM fl_RX10_10 e13 dX10_paid_36 ?_
        obtain ⟨q14, e15, h⟩ := ob h
        refine bz_getQ (pc := 39) X hM fl_RX10_280 e15 dX10_paid_39 ?_
        obtain ⟨v17, e16, h⟩ := ob h
        obtain ⟨fs18, hb19⟩ := (rX3_size e16)
        refine bz_callV1 (pc := 42) (As := []) (rest := []) X hM hl.1 k_RX10_96 (ctX3_size l e16) rfl hb19 rfl rfl ⟨(Nat.le_of_ble_eq_true rfl), (Nat.le_of_ble_eq_true rfl)⟩ (Nat.le_of_ble_eq_true rfl) ⟨(Nat.le_of_ble_eq_true rfl), (Nat.le_of_ble_eq_true rfl)⟩ dX10_paid_42 (fun H locs hM => ?_)
        refine lv_if_ne (pc := 45) (tgt := 54) hx hb dX10_paid_45 (by decide) (fun hc => ?_) (fun hc => ?_)
        · have h := if_f hc h
          refine lv_aload_n (pc := 54) hx hb dX10_paid_54 rfl (lv_at hl 1 rfl) ?_
          obtain ⟨q20, e21, h⟩ := ob h
          refine bz_getQ (pc := 55) X hM fl_RX10_42 e21 dX10_paid_55 ?_
          refine lv_aload_n (pc := 58) hx hb dX10_paid_58 rfl (lv_at hl 1 rfl) ?_
          obtain ⟨q22, e23, h⟩ := ob h
          refine bz_getQ (pc := 59) X hM fl_RX10_10 e23 dX10_paid_59 ?_
          refine lv_aload (pc := 62) hx hb dX10_paid_62 (lv_at hl 0 rfl) ?_
          obtain ⟨v24, e25, h⟩ := ob h
          refine bz_getI (pc := 64) X hM fl_RX10_250 e25 dX10_paid_64 ?_
          obtain ⟨M27, e26, h⟩ := ob h
          obtain ⟨fs28, hb29⟩ := (rX1_hear e26)
          refine bz_callV0 (pc := 67) (As := [.ref (pB P + q22), .int v24]) (rest := []) X hM hl.1 k_RX10_217 (ctX1_hear l e26) rfl hb29 rfl rfl ⟨(Nat.le_of_ble_eq_true rfl), (Nat.le_of_ble_eq_true rfl)⟩ (Nat.le_of_ble_eq_true rfl) ⟨(Nat.le_of_ble_eq_true rfl), (Nat.le_of_ble_eq_true rfl)⟩ dX10_paid_67 (fun H locs hM => ?_)
          refine lv_aload_n (pc := 70) hx hb dX10_paid_70 rfl (lv_at hl 1 rfl) ?_
          obtain ⟨q30, e31, h⟩ := ob h
          refine bz_getQ (pc := 71) X hM fl_RX10_56 e31 dX10_paid_71 ?_
          refine lv_aload_n (pc := 74) hx hb dX10_paid_74 rfl (lv_at hl 1 rfl) ?_
          obtain ⟨q32, e33, h⟩ := ob h
          refine bz_getQ (pc := 75) X hM fl_RX10_42 e33 dX10_paid_75 ?_
          refine lv_aload (pc := 78) hx hb dX10_paid_78 (lv_at hl 0 rfl) ?_
          refine lv_aload_n (pc := 80) hx hb dX10_paid_80 rfl (lv_at hl 1 rfl) ?_
          obtain ⟨q34, e35, h⟩ := ob h
          refine bz_getQ (pc := 81) X hM fl_RX10_10 e35 dX10_paid_81 ?_
          obtain ⟨q36, e37, h⟩ := ob h
          refine bz_getQ (pc := 84) X hM fl_RX10_280 e37 dX10_paid_84 ?_
          refine lv_iload_n (pc := 87) hx hb dX10_paid_87 rfl (lv_at hl 3 rfl) ?_
          obtain ⟨v39, M40, e38, h⟩ := ob2 h
          obtain ⟨fs41, hb42⟩ := (rX5_takeLines e38)
          refine bz_callV1 (pc := 88) (As := [.ref (pB P + q32), .ref (pB P + q7), .ref (pB P + q36), .int a2]) (rest := []) X hM hl.1 k_RX10_283 (ctX5_takeLines l e38) rfl hb42 rfl rfl ⟨(Nat.le_of_ble_eq_true rfl), (Nat.le_of_ble_eq_true rfl)⟩ (Nat.le_of_ble_eq_true rfl) ⟨(Nat.le_of_ble_eq_true rfl), (Nat.le_of_ble_eq_true rfl)⟩ dX10_paid_88 (fun H locs hM => ?_)
          refine lv_pop (pc := 91) hx hb dX10_paid_91 rfl ?_
          refine lv_aload_n (pc := 92) hx hb dX10_paid_92 rfl (lv_at hl 1 rfl) ?_
          obtain ⟨q43, e44, h⟩ := ob h
          refine bz_getQ (pc := 93) X hM fl_RX10_56 e44 dX10_paid_93 ?_
          obtain ⟨v46, e45, h⟩ := ob h
          obtain ⟨fs47, hb48⟩ := (rX5_noLess e45)
          refine bz_callV1 (pc := 96) (As := []) (rest := []) X hM hl.1 k_RX10_287 (ctX5_noLess l e45) rfl hb48 rfl rfl ⟨(Nat.le_of_ble_eq_true rfl), (Nat.le_of_ble_eq_true rfl)⟩ (Nat.le_of_ble_eq_true rfl) ⟨(Nat.le_of_ble_eq_true rfl), (Nat.le_of_ble_eq_true rfl)⟩ dX10_paid_96 (fun H locs hM => ?_)
          refine lv_i2l (pc := 99) (v := ((v46).toInt64)) hx hb dX10_paid_99 rfl ?_
          refine lv_iload_n (pc := 100) hx hb dX10_paid_100 rfl (lv_at hl 3 rfl) ?_
          refine lv_i2l (pc := 101) (v := ((a2).toInt64)) hx hb dX10_paid_101 rfl ?_
          refine lv_iload_n (pc := 102) hx hb dX10_paid_102 rfl (lv_at hl 4 rfl) ?_
          obtain ⟨v50, e49, h⟩ := ob h
          refine bz_callS1 (pc := 103) (As := [.long ((v46).toInt64), .long ((a2).toInt64), .int a3]) (rest := []) X hM hl.1 k_RX10_273 (ctX10_inLowestTerms l e49) rfl rfl ⟨(Nat.le_of_ble_eq_true rfl), (Nat.le_of_ble_eq_true rfl)⟩ (Nat.le_of_ble_eq_true rfl) ⟨(Nat.le_of_ble_eq_true rfl), (Nat.le_of_ble_eq_true rfl)⟩ dX10_paid_103 (fun H locs hM => ?_)
          refine lv_l2i (pc := 106) (v := ((v50).toInt32)) hx hb dX10_paid_106 rfl ?_
          obtain ⟨rfl, rfl⟩ := so2 h
          exact bz_iret (pc := 107) X hM hr hlk dX10_paid_107 (Nat.le_of_ble_eq_true rfl) (Nat.le_of_ble_eq_true rfl)
        · have h := if_t hc h
          refine lv_aload_n (pc := 48) hx hb dX10_paid_48 rfl (lv_at hl 1 rfl) ?_
          refine lv_iconst (pc := 49) (v := (2 : Int32)) hx hb dX10_paid_49 (by decide) ?_
          obtain ⟨v52, M53, e51, h⟩ := ob2 h
          obtain ⟨fs54, hb55⟩ := (rX10_error e51)
          refine bz_callV1 (pc := 50) (As := [.int (2 : Int32)]) (rest := []) X hM hl.1 k_RX10_78 (ctX10_error l e51) rfl hb55 rfl rfl ⟨(Nat.le_of_ble_eq_true rfl), (Nat.le_of_ble_eq_true rfl)⟩ (Nat.le_of_ble_eq_true rfl) ⟨(Nat.le_of_ble_eq_true rfl), (Nat.le_of_ble_eq_true rfl)⟩ dX10_paid_50 (fun H locs hM => ?_)
          obtain ⟨rfl, rfl⟩ := so2 h
          exact bz_iret (pc := 53) X hM hr hlk dX10_paid_53 (Nat.le_of_ble_eq_true rfl) (Nat.le_of_ble_eq_true rfl)
      · have h := if_t hc h
        exact wjX10_paid_29 hX _ _ h H locs ls hM (lv_sub hl [1] rfl)
theorem rX10_paid {N : Nat} {M : Mm} {a0 : Nat} {a1 : Int32} {a2 : Int32} {a3 : Int32} {r9 : Int32 × Mm} (h : fX10_paid N M a0 a1 a2 a3 = some r9) : ∃ fs, M[a0]? = some (.inr (10, fs)) := by
  unfold fX10_paid at h
  obtain ⟨_, e1, _⟩ := ob h
  exact gC_spec e1
theorem ctX10_paid (l : Launch) {P : PT} {N : Nat} {M : Mm} {a0 : Nat} {a1 : Int32} {a2 : Int32} {a3 : Int32} {r9 : Int32} {M9 : Mm} (h : fX10_paid N M a0 a1 a2 a3 = some (r9, M9)) : Ct l yX10_paid cX10_paid 5 (some .int) 6 0 P [.ref (pB P + a0), .int a1, .int a2, .int a3] M (some (.int r9)) M9 :=
  Ct.mk (by decide +kernel) (Nat.le_of_ble_eq_true rfl) (fun p e s m args below meth c hX => wX10_paid hX M a0 a1 a2 a3 h)
set_option maxHeartbeats 4000000 in
set_option maxRecDepth 100000 in
theorem wBX11_paid_67 {p : Program} {l : Launch} {e : Env} {s : State} {m : MethodId} {args : Array Value} {below : List Frame} {meth : Method} {c : Code} {P : PT} {N : Nat} {K67 : Mm → Nat → Int32 → Int32 → Int32 → Int32 → Int32 → Option (Int32 × Mm)}  {r9 : Int32} {M9 : Mm} (hX : Cy p s m args c meth cX11_paid 7 RX11 "paid" (some .int) P)  (hK67 : ∀ (M : Mm) (x0 : Nat) (x2 : Int32) (x3 : Int32) (x4 : Int32) (x5 : Int32) (x6 : Int32), K67 M x0 x2 x3 x4 x5 x6 = some (r9, M9) → Wq p l e s m args below meth c 6 0 (some (.int r9)) M9 7 P 0 67 [(0, .ref (pB P + x0)), (2, .int x2), (3, .int x3), (4, .int x4), (5, .int x5), (6, .int x6)] [] M) (M : Mm) (x0 : Nat) (x2 : Int32) (x3 : Int32) (x4 : Int32) (x5 : Int32) (x6 : Int32)  (h : BX11_paid_67 N K67 M x0 x2 x3 x4 x5 x6 = some (r9, M9)) : Wq p l e s m args below meth c 6 0 (some (.int r9)) M9 7 P 0 67 [(0, .ref (pB P + x0)), (2, .int x2), (3, .int x3), (4, .int x4), (5, .int x5), (6, .int x6)] [] M := by
  unfold BX11_paid_67 at h
  have hX0 := hX
  obtain ⟨X, hr, hlk, hnm⟩ := hX0
  have hx := X.1.1
  have hb := X.1.2.1
  intro H locs ls hM hl
  refine lv_iload (pc := 67) hx hb dX11_paid_67 (lv_at hl 5 rfl) ?_
  refine lv_iload_n (pc := 69) hx hb dX11_paid_69 rfl (lv_at hl 1 rfl) ?_
  refine lv_icmp_gt (pc := 70) (tgt := 111) hx hb dX11_paid_70 (by decide) (fun hc => ?_) (fun hc => ?_)
  · have h := if_t hc h
    refine lv_iload (pc := 111) hx hb dX11_paid_111 (lv_at hl 4 rfl) ?_
    refine lv_iload_n (pc := 113) hx hb dX11_paid_113 rfl (lv_at hl 1 rfl) ?_
    refine lv_iload_n (pc := 114) hx hb dX11_paid_114 rfl (lv_at hl 2 rfl) ?_
    obtain ⟨v2, e1, h⟩ := ob h
    refine bz_callS1 (pc := 115) (As := [.int x5, .int x2, .int x3]) (rest := []) X hM hl.1 k_RX11_258 (ctX11_part l e1) rfl rfl ⟨(Nat.le_of_ble_eq_true rfl), (Nat.le_of_ble_eq_true rfl)⟩ (Nat.le_of_ble_eq_true rfl) ⟨(Nat.le_of_ble_eq_true rfl), (Nat.le_of_ble_eq_true rfl)⟩ dX11_paid_115 (fun H locs hM => ?_)
    obtain ⟨rfl, rfl⟩ := so2 h
    exact bz_iret (pc := 118) X hM hr hlk dX11_paid_118 (Nat.le_of_ble_eq_true rfl) (Nat.le_of_ble_eq_true rfl)
  · have h := if_f hc h
    refine lv_iload (pc := 73) hx hb dX11_paid_73 (lv_at hl 4 rfl) ?_
    refine lv_aload_n (pc := 75) hx hb dX11_paid_75 rfl (lv_at hl 0 rfl) ?_
    obtain ⟨q3, e4, h⟩ := ob h
    refine bz_getQ (pc := 76) X hM fl_RX11_47 e4 dX11_paid_76 ?_
    refine lv_bipush (pc := 79) (v := (41 : Int32)) hx hb dX11_paid_79 (by decide) ?_
    refine lv_aload_n (pc := 81) hx hb dX11_paid_81 rfl (lv_at hl 0 rfl) ?_
    refine lv_iload (pc := 82) hx hb dX11_paid_82 (lv_at hl 5 rfl) ?_
    obtain ⟨v6, e5, h⟩ := ob h
    obtain ⟨fs7, hb8⟩ := (rX11_greatest e5)
    refine bz_callV1 (pc := 84) (As := [.int x6]) (rest := [.int (41 : Int32), .ref (pB P + q3), .int x5]) X hM hl.1 k_RX11_270 (ctX11_greatest l e5) rfl hb8 rfl rfl ⟨(Nat.le_of_ble_eq_true rfl), (Nat.le_of_ble_eq_true rfl)⟩ (Nat.le_of_ble_eq_true rfl) ⟨(Nat.le_of_ble_eq_true rfl), (Nat.le_of_ble_eq_true rfl)⟩ dX11_paid_84 (fun H locs hM => ?_)
    refine lv_imul (pc := 87) hx hb dX11_paid_87 ?_
    refine lv_iload (pc := 88) hx hb dX11_paid_88 (lv_at hl 5 rfl) ?_
    refine lv_iadd (pc := 90) hx hb dX11_paid_90 ?_
    obtain ⟨v9, e10, h⟩ := ob h
    refine bz_iald (pc := 91) X hM e10 dX11_paid_91 ?_
    refine lv_iload (pc := 92) hx hb dX11_paid_92 (lv_at hl 3 rfl) ?_
    refine lv_icmp_lt (pc := 94) (tgt := 101) hx hb dX11_paid_94 (by decide) (fun hc => ?_) (fun hc => ?_)
    · have h := if_t hc h
      refine lv_iconst (pc := 101) (v := (0 : Int32)) hx hb dX11_paid_101 (by decide) ?_
      refine lv_iadd (pc := 102) hx hb dX11_paid_102 ?_
      refine lv_istore (pc := 103) (lv' := [(5, .int (x5 + (0 : Int32))), (0, .ref (pB P + x0)), (2, .int x2), (3, .int x3), (4, .int x4), (6, .int x6)]) hx hb dX11_paid_103 hl (by decide) rfl (fun ls hl => ?_)
      refine lv_iinc (pc := 105) (v := (x6 + (1 : Int32))) (lv' := [(6, .int (x6 + (1 : Int32))), (5, .int (x5 + (0 : Int32))), (0, .ref (pB P + x0)), (2, .int x2), (3, .int x3), (4, .int x4)]) hx hb dX11_paid_105 hl (k := 5) rfl rfl (by decide) rfl (fun ls hl => ?_)
      refine lv_goto (pc := 108) (tgt := 67) hx hb dX11_paid_108 (by decide) ?_
      exact hK67 _ _ _ _ _ _ _ h H locs ls hM (lv_sub hl [2, 3, 4, 5, 1, 0] rfl)
    · have h := if_f hc h
      refine lv_iconst (pc := 97) (v := (1 : Int32)) hx hb dX11_paid_97 (by decide) ?_
      refine lv_goto (pc := 98) (tgt := 102) hx hb dX11_paid_98 (by decide) ?_
      refine lv_iadd (pc := 102) hx hb dX11_paid_102 ?_
      refine lv_istore (pc := 103) (lv' := [(5, .int (x5 + (1 : Int32))), (0, .ref (pB P + x0)), (2, .int x2), (3, .int x3), (4, .int x4), (6, .int x6)]) hx hb dX11_paid_103 hl (by decide) rfl (fun ls hl => ?_)
      refine lv_iinc (pc := 105) (v := (x6 + (1 : Int32))) (lv' := [(6, .int (x6 + (1 : Int32))), (5, .int (x5 + (1 : Int32))), (0, .ref (pB P + x0)), (2, .int x2), (3, .int x3), (4, .int x4)]) hx hb dX11_paid_105 hl (k := 5) rfl rfl (by decide) rfl (fun ls hl => ?_)
      refine lv_goto (pc := 108) (tgt := 67) hx hb dX11_paid_108 (by decide) ?_
      exact hK67 _ _ _ _ _ _ _ h H locs ls hM (lv_sub hl [2, 3, 4, 5, 1, 0] rfl)
set_option maxHeartbeats 4000000 in
set_option maxRecDepth 100000 in
theorem wLX11_paid_67 {p : Program} {l : Launch} {e : Env} {s : State} {m : MethodId} {args : Array Value} {below : List Frame} {meth : Method} {c : Code} {P : PT} {N : Nat}  {r9 : Int32} {M9 : Mm} (hX : Cy p s m args c meth cX11_paid 7 RX11 "paid" (some .int) P)   : ∀ (n : Nat) (M : Mm) (x0 : Nat) (x2 : Int32) (x3 : Int32) (x4 : Int32) (x5 : Int32) (x6 : Int32) , LX11_paid_67 N n M x0 x2 x3 x4 x5 x6 = some (r9, M9) → Wq p l e s m args below meth c 6 0 (some (.int r9)) M9 7 P 0 67 [(0, .ref (pB P + x0)), (2, .int x2), (3, .int x3), (4, .int x4), (5, .int x5), (6, .int x6)] [] M := by
  intro n
  induction n with
  | zero => intro M x0 x2 x3 x4 x5 x6 h; cases h
  | succ n ih => intro M x0 x2 x3 x4 x5 x6 h; exact wBX11_paid_67 hX ih M x0 x2 x3 x4 x5 x6 h
set_option maxHeartbeats 4000000 in
set_option maxRecDepth 100000 in
theorem wjX11_paid_19 {p : Program} {l : Launch} {e : Env} {s : State} {m : MethodId} {args : Array Value} {below : List Frame} {meth : Method} {c : Code} {P : PT} {N : Nat}  {r9 : Int32} {M9 : Mm} (hX : Cy p s m args c meth cX11_paid 7 RX11 "paid" (some .int) P)   (M : Mm) (x0 : Nat)  (h : jX11_paid_19 N M x0 = some (r9, M9)) : Wq p l e s m args below meth c 6 0 (some (.int r9)) M9 7 P 0 19 [(0, .ref (pB P + x0))] [] M := by
  unfold jX11_paid_19 at h
  have hX0 := hX
  obtain ⟨X, hr, hlk, hnm⟩ := hX0
  have hx := X.1.1
  have hb := X.1.2.1
  intro H locs ls hM hl
  refine lv_aload_n (pc := 19) hx hb dX11_paid_19 rfl (lv_at hl 0 rfl) ?_
  refine lv_iconst (pc := 20) (v := (1 : Int32)) hx hb dX11_paid_20 (by decide) ?_
  obtain ⟨v2, M3, e1, h⟩ := ob2 h
  obtain ⟨fs4, hb5⟩ := (rX11_error e1)
  refine bz_callV1 (pc := 21) (As := [.int (1 : Int32)]) (rest := []) X hM hl.1 k_RX11_73 (ctX11_error l e1) rfl hb5 rfl rfl ⟨(Nat.le_of_ble_eq_true rfl), (Nat.le_of_ble_eq_true rfl)⟩ (Nat.le_of_ble_eq_true rfl) ⟨(Nat.le_of_ble_eq_true rfl), (Nat.le_of_ble_eq_true rfl)⟩ dX11_paid_21 (fun H locs hM => ?_)
  obtain ⟨rfl, rfl⟩ := so2 h
  exact bz_iret (pc := 24) X hM hr hlk dX11_paid_24 (Nat.le_of_ble_eq_true rfl) (Nat.le_of_ble_eq_true rfl)
set_option maxHeartbeats 4000000 in
set_option maxRecDepth 100000 in
theorem wX11_paid {p : Program} {l : Launch} {e : Env} {s : State} {m : MethodId} {args : Array Value} {below : List Frame} {meth : Method} {c : Code} {P : PT} {N : Nat}  {r9 : Int32} {M9 : Mm} (hX : Cy p s m args c meth cX11_paid 7 RX11 "paid" (some .int) P)  (M : Mm) (a0 : Nat) (a1 : Int32) (a2 : Int32) (a3 : Int32) (h : fX11_paid N M a0 a1 a2 a3 = some (r9, M9)) : Wq p l e s m args below meth c 6 0 (some (.int r9)) M9 7 P 0 0 [(0, .ref (pB P + a0)), (1, .int a1), (2, .int a2), (3, .int a3)] [] M := by
  unfold fX11_paid at h
  obtain ⟨_, _, h⟩ := ob h
  have hX0 := hX
  obtain ⟨X, hr, hlk, hnm⟩ := hX0
  have hx := X.1.1
  have hb := X.1.2.1
  intro H locs ls hM hl
  refine lv_aload_n (pc := 0) hx hb dX11_paid_0 rfl (lv_at hl 0 rfl) ?_
  refine lv_iload_n (pc := 1) hx hb dX11_paid_1 rfl (lv_at hl 1 rfl) ?_
  refine lv_iload_n (pc := 2) hx hb dX11_paid_2 rfl (lv_at hl 2 rfl) ?_
  obtain ⟨v2, e1, h⟩ := ob h
  obtain ⟨fs3, hb4⟩ := (rX11_isAsked e1)
  refine bz_callV1 (pc := 3) (As := [.int a1, .int a2]) (rest := []) X hM hl.1 k_RX11_255 (ctX11_isAsked l e1) rfl hb4 rfl rfl ⟨(Nat.le_of_ble_eq_true rfl), (Nat.le_of_ble_eq_true rfl)⟩ (Nat.le_of_ble_eq_true rfl) ⟨(Nat.le_of_ble_eq_true rfl), (Nat.le_of_ble_eq_true rfl)⟩ dX11_paid_3 (fun H locs hM => ?_)
  refine lv_if_eq (pc := 6) (tgt := 19) hx hb dX11_paid_6 (by decide) (fun hc => ?_) (fun hc => ?_)
  · have h := if_t hc h
    exact wjX11_paid_19 hX _ _ h H locs ls hM (lv_sub hl [0] rfl)
  · have h := if_f hc h
    refine lv_iload_n (pc := 9) hx hb dX11_paid_9 rfl (lv_at hl 3 rfl) ?_
    refine lv_i2l (pc := 10) (v := ((a3).toInt64)) hx hb dX11_paid_10 rfl ?_
    refine lv_lconst (pc := 11) (v := (0 : Int64)) hx hb dX11_paid_11 (by decide) ?_
    refine lv_lconst (pc := 12) (v := (1 : Int64)) hx hb dX11_paid_12 (by decide) ?_
    obtain ⟨v6, e5, h⟩ := ob h
    refine bz_callS1 (pc := 13) (As := [.long ((a3).toInt64), .long (0 : Int64), .long (1 : Int64)]) (rest := []) X hM hl.1 k_RX11_57 (ctX11_in l e5) rfl rfl ⟨(Nat.le_of_ble_eq_true rfl), (Nat.le_of_ble_eq_true rfl)⟩ (Nat.le_of_ble_eq_true rfl) ⟨(Nat.le_of_ble_eq_true rfl), (Nat.le_of_ble_eq_true rfl)⟩ dX11_paid_13 (fun H locs hM => ?_)
    refine lv_if_ne (pc := 16) (tgt := 25) hx hb dX11_paid_16 (by decide) (fun hc => ?_) (fun hc => ?_)
    · have h := if_f hc h
      refine lv_aload_n (pc := 25) hx hb dX11_paid_25 rfl (lv_at hl 0 rfl) ?_
      obtain ⟨q7, e8, h⟩ := ob h
      refine bz_getQ (pc := 26) X hM fl_RX11_9 e8 dX11_paid_26 ?_
      refine lv_iconst (pc := 29) (v := (3 : Int32)) hx hb dX11_paid_29 (by decide) ?_
      obtain ⟨v9, e10, h⟩ := ob h
      refine bz_iald (pc := 30) X hM e10 dX11_paid_30 ?_
      refine lv_if_ne (pc := 31) (tgt := 40) hx hb dX11_paid_31 (by decide) (fun hc => ?_) (fun hc => ?_)
      · have h := if_f hc h
        refine lv_aload_n (pc := 40) hx hb dX11_paid_40 rfl (lv_at hl 0 rfl) ?_
        refine lv_iload_n (pc := 41) hx hb dX11_paid_41 rfl (lv_at hl 1 rfl) ?_
        refine lv_iload_n (pc := 42) hx hb dX11_paid_42 rfl (lv_at hl 2 rfl) ?_
        obtain ⟨M12, e11, h⟩ := ob h
        obtain ⟨fs13, hb14⟩ := (rX11_findScores e11)
        refine bz_callV0 (pc := 43) (As := [.int a1, .int a2]) (rest := []) X hM hl.1 k_RX11_266 (ctX11_findScores l e11) rfl hb14 rfl rfl ⟨(Nat.le_of_ble_eq_true rfl), (Nat.le_of_ble_eq_true rfl)⟩ (Nat.le_of_ble_eq_true rfl) ⟨(Nat.le_of_ble_eq_true rfl), (Nat.le_of_ble_eq_true rfl)⟩ dX11_paid_43 (fun H locs hM => ?_)
        refine lv_aload_n (pc := 46) hx hb dX11_paid_46 rfl (lv_at hl 0 rfl) ?_
        obtain ⟨q15, e16, h⟩ := ob h
        refine bz_getQ (pc := 47) X hM fl_RX11_47 e16 dX11_paid_47 ?_
        refine lv_bipush (pc := 50) (v := (41 : Int32)) hx hb dX11_paid_50 (by decide) ?_
        refine lv_aload_n (pc := 52) hx hb dX11_paid_52 rfl (lv_at hl 0 rfl) ?_
        refine lv_iconst (pc := 53) (v := (0 : Int32)) hx hb dX11_paid_53 (by decide) ?_
        obtain ⟨v18, e17, h⟩ := ob h
        obtain ⟨fs19, hb20⟩ := (rX11_greatest e17)
        refine bz_callV1 (pc := 54) (As := [.int (0 : Int32)]) (rest := [.int (41 : Int32), .ref (pB P + q15)]) X hM hl.1 k_RX11_270 (ctX11_greatest l e17) rfl hb20 rfl rfl ⟨(Nat.le_of_ble_eq_true rfl), (Nat.le_of_ble_eq_true rfl)⟩ (Nat.le_of_ble_eq_true rfl) ⟨(Nat.le_of_ble_eq_true rfl), (Nat.le_of_ble_eq_true rfl)⟩ dX11_paid_54 (fun H locs hM => ?_)
        refine lv_imul (pc := 57) hx hb dX11_paid_57 ?_
        obtain ⟨v21, e22, h⟩ := ob h
        refine bz_iald (pc := 58) X hM e22 dX11_paid_58 ?_
        refine lv_istore (pc := 59) (lv' := [(4, .int v21), (0, .ref (pB P + a0)), (1, .int a1), (2, .int a2), (3, .int a3)]) hx hb dX11_paid_59 hl (by decide) rfl (fun ls hl => ?_)
        refine lv_iconst (pc := 61) (v := (0 : Int32)) hx hb dX11_paid_61 (by decide) ?_
        refine lv_istore (pc := 62) (lv' := [(5, .int (0 : Int32)), (4, .int v21), (0, .ref (pB P + a0)), (1, .int a1), (2, .int a2), (3, .int a3)]) hx hb dX11_paid_62 hl (by decide) rfl (fun ls hl => ?_)
        refine lv_iconst (pc := 64) (v := (1 : Int32)) hx hb dX11_paid_64 (by decide) ?_
        refine lv_istore (pc := 65) (lv' := [(6, .int (1 : Int32)), (5, .int (0 : Int32)), (4, .int v21), (0, .ref (pB P + a0)), (1, .int a1), (2, .int a2), (3, .int a3)]) hx hb dX11_paid_65 hl (by decide) rfl (fun ls hl => ?_)
        exact wLX11_paid_67 hX _ _ _ _ _ _ _ _ h H locs ls hM (lv_sub hl [3, 5, 6, 2, 1, 0] rfl)
      · have h := if_t hc h
        refine lv_aload_n (pc := 34) hx hb dX11_paid_34 rfl (lv_at hl 0 rfl) ?_
        refine lv_iconst (pc := 35) (v := (2 : Int32)) hx hb dX11_paid_35 (by decide) ?_
        obtain ⟨v24, M25, e23, h⟩ := ob2 h
        obtain ⟨fs26, hb27⟩ := (rX11_error e23)
        refine bz_callV1 (pc := 36) (As := [.int (2 : Int32)]) (rest := []) X hM hl.1 k_RX11_73 (ctX11_error l e23) rfl hb27 rfl rfl ⟨(Nat.le_of_ble_eq_true rfl), (Nat.le_of_ble_eq_true rfl)⟩ (Nat.le_of_ble_eq_true rfl) ⟨(Nat.le_of_ble_eq_true rfl), (Nat.le_of_ble_eq_true rfl)⟩ dX11_paid_36 (fun H locs hM => ?_)
        obtain ⟨rfl, rfl⟩ := so2 h
        exact bz_iret (pc := 39) X hM hr hlk dX11_paid_39 (Nat.le_of_ble_eq_true rfl) (Nat.le_of_ble_eq_true rfl)
    · have h := if_t hc h
      exact wjX11_paid_19 hX _ _ h H locs ls hM (lv_sub hl [0] rfl)
theorem rX11_paid {N : Nat} {M : Mm} {a0 : Nat} {a1 : Int32} {a2 : Int32} {a3 : Int32} {r9 : Int32 × Mm} (h : fX11_paid N M a0 a1 a2 a3 = some r9) : ∃ fs, M[a0]? = some (.inr (11, fs)) := by
  unfold fX11_paid at h
  obtain ⟨_, e1, _⟩ := ob h
  exact gC_spec e1
theorem ctX11_paid (l : Launch) {P : PT} {N : Nat} {M : Mm} {a0 : Nat} {a1 : Int32} {a2 : Int32} {a3 : Int32} {r9 : Int32} {M9 : Mm} (h : fX11_paid N M a0 a1 a2 a3 = some (r9, M9)) : Ct l yX11_paid cX11_paid 7 (some .int) 6 0 P [.ref (pB P + a0), .int a1, .int a2, .int a3] M (some (.int r9)) M9 :=
  Ct.mk (by decide +kernel) (Nat.le_of_ble_eq_true rfl) (fun p e s m args below meth c hX => wX11_paid hX M a0 a1 a2 a3 h)
set_option maxHeartbeats 4000000 in
set_option maxRecDepth 100000 in
theorem wX10_let {p : Program} {l : Launch} {e : Env} {s : State} {m : MethodId} {args : Array Value} {below : List Frame} {meth : Method} {c : Code} {P : PT}  {r9 : Int32} {M9 : Mm} (hX : Cy p s m args c meth cX10_let 2 RX10 "let" (some .int) P)  (M : Mm) (a0 : Nat) (a1 : Int32) (h : fX10_let M a0 a1 = some (r9, M9)) : Wq p l e s m args below meth c 3 0 (some (.int r9)) M9 2 P 0 0 [(0, .ref (pB P + a0)), (1, .int a1)] [] M := by
  unfold fX10_let at h
  obtain ⟨_, _, h⟩ := ob h
  have hX0 := hX
  obtain ⟨X, hr, hlk, hnm⟩ := hX0
  have hx := X.1.1
  have hb := X.1.2.1
  intro H locs ls hM hl
  refine lv_iload_n (pc := 0) hx hb dX10_let_0 rfl (lv_at hl 1 rfl) ?_
  obtain ⟨v2, e1, h⟩ := ob h
  refine bz_callS1 (pc := 1) (As := [.int a1]) (rest := []) X hM hl.1 k_RX10_103 (ctX10_isTenth l e1) rfl rfl ⟨(Nat.le_of_ble_eq_true rfl), (Nat.le_of_ble_eq_true rfl)⟩ (Nat.le_of_ble_eq_true rfl) ⟨(Nat.le_of_ble_eq_true rfl), (Nat.le_of_ble_eq_true rfl)⟩ dX10_let_1 (fun H locs hM => ?_)
  refine lv_if_ne (pc := 4) (tgt := 13) hx hb dX10_let_4 (by decide) (fun hc => ?_) (fun hc => ?_)
  · have h := if_f hc h
    refine lv_aload_n (pc := 13) hx hb dX10_let_13 rfl (lv_at hl 0 rfl) ?_
    obtain ⟨q3, e4, h⟩ := ob h
    refine bz_getQ (pc := 14) X hM fl_RX10_10 e4 dX10_let_14 ?_
    obtain ⟨q5, e6, h⟩ := ob h
    refine bz_getQ (pc := 17) X hM fl_RX10_290 e6 dX10_let_17 ?_
    refine lv_iload_n (pc := 20) hx hb dX10_let_20 rfl (lv_at hl 1 rfl) ?_
    obtain ⟨v8, M9, e7, h⟩ := ob2 h
    obtain ⟨fs10, hb11⟩ := (rX3_add e7)
    refine bz_callV1 (pc := 21) (As := [.int a1]) (rest := []) X hM hl.1 k_RX10_92 (ctX3_add l e7) rfl hb11 rfl rfl ⟨(Nat.le_of_ble_eq_true rfl), (Nat.le_of_ble_eq_true rfl)⟩ (Nat.le_of_ble_eq_true rfl) ⟨(Nat.le_of_ble_eq_true rfl), (Nat.le_of_ble_eq_true rfl)⟩ dX10_let_21 (fun H locs hM => ?_)
    refine lv_if_ne (pc := 24) (tgt := 33) hx hb dX10_let_24 (by decide) (fun hc => ?_) (fun hc => ?_)
    · have h := if_f hc h
      refine lv_aload_n (pc := 33) hx hb dX10_let_33 rfl (lv_at hl 0 rfl) ?_
      obtain ⟨q12, e13, h⟩ := ob h
      refine bz_getQ (pc := 34) X hM fl_RX10_10 e13 dX10_let_34 ?_
      obtain ⟨q14, e15, h⟩ := ob h
      refine bz_getQ (pc := 37) X hM fl_RX10_290 e15 dX10_let_37 ?_
      obtain ⟨v17, e16, h⟩ := ob h
      obtain ⟨fs18, hb19⟩ := (rX3_size e16)
      refine bz_callV1 (pc := 40) (As := []) (rest := []) X hM hl.1 k_RX10_96 (ctX3_size l e16) rfl hb19 rfl rfl ⟨(Nat.le_of_ble_eq_true rfl), (Nat.le_of_ble_eq_true rfl)⟩ (Nat.le_of_ble_eq_true rfl) ⟨(Nat.le_of_ble_eq_true rfl), (Nat.le_of_ble_eq_true rfl)⟩ dX10_let_40 (fun H locs hM => ?_)
      refine lv_iconst (pc := 43) (v := (1 : Int32)) hx hb dX10_let_43 (by decide) ?_
      refine lv_isub (pc := 44) hx hb dX10_let_44 ?_
      obtain ⟨rfl, rfl⟩ := so2 h
      exact bz_iret (pc := 45) X hM hr hlk dX10_let_45 (Nat.le_of_ble_eq_true rfl) (Nat.le_of_ble_eq_true rfl)
    · have h := if_t hc h
      refine lv_aload_n (pc := 27) hx hb dX10_let_27 rfl (lv_at hl 0 rfl) ?_
      refine lv_iconst (pc := 28) (v := (4 : Int32)) hx hb dX10_let_28 (by decide) ?_
      obtain ⟨v21, M22, e20, h⟩ := ob2 h
      obtain ⟨fs23, hb24⟩ := (rX10_error e20)
      refine bz_callV1 (pc := 29) (As := [.int (4 : Int32)]) (rest := []) X hM hl.1 k_RX10_78 (ctX10_error l e20) rfl hb24 rfl rfl ⟨(Nat.le_of_ble_eq_true rfl), (Nat.le_of_ble_eq_true rfl)⟩ (Nat.le_of_ble_eq_true rfl) ⟨(Nat.le_of_ble_eq_true rfl), (Nat.le_of_ble_eq_true rfl)⟩ dX10_let_29 (fun H locs hM => ?_)
      obtain ⟨rfl, rfl⟩ := so2 h
      exact bz_iret (pc := 32) X hM hr hlk dX10_let_32 (Nat.le_of_ble_eq_true rfl) (Nat.le_of_ble_eq_true rfl)
  · have h := if_t hc h
    refine lv_aload_n (pc := 7) hx hb dX10_let_7 rfl (lv_at hl 0 rfl) ?_
    refine lv_iconst (pc := 8) (v := (1 : Int32)) hx hb dX10_let_8 (by decide) ?_
    obtain ⟨v26, M27, e25, h⟩ := ob2 h
    obtain ⟨fs28, hb29⟩ := (rX10_error e25)
    refine bz_callV1 (pc := 9) (As := [.int (1 : Int32)]) (rest := []) X hM hl.1 k_RX10_78 (ctX10_error l e25) rfl hb29 rfl rfl ⟨(Nat.le_of_ble_eq_true rfl), (Nat.le_of_ble_eq_true rfl)⟩ (Nat.le_of_ble_eq_true rfl) ⟨(Nat.le_of_ble_eq_true rfl), (Nat.le_of_ble_eq_true rfl)⟩ dX10_let_9 (fun H locs hM => ?_)
    obtain ⟨rfl, rfl⟩ := so2 h
    exact bz_iret (pc := 12) X hM hr hlk dX10_let_12 (Nat.le_of_ble_eq_true rfl) (Nat.le_of_ble_eq_true rfl)
theorem rX10_let {M : Mm} {a0 : Nat} {a1 : Int32} {r9 : Int32 × Mm} (h : fX10_let M a0 a1 = some r9) : ∃ fs, M[a0]? = some (.inr (10, fs)) := by
  unfold fX10_let at h
  obtain ⟨_, e1, _⟩ := ob h
  exact gC_spec e1
theorem ctX10_let (l : Launch) {P : PT} {M : Mm} {a0 : Nat} {a1 : Int32} {r9 : Int32} {M9 : Mm} (h : fX10_let M a0 a1 = some (r9, M9)) : Ct l yX10_let cX10_let 2 (some .int) 3 0 P [.ref (pB P + a0), .int a1] M (some (.int r9)) M9 :=
  Ct.mk (by decide +kernel) (Nat.le_of_ble_eq_true rfl) (fun p e s m args below meth c hX => wX10_let hX M a0 a1 h)
