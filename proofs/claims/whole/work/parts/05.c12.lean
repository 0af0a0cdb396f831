set_option maxHeartbeats 4000000 in
set_option maxRecDepth 100000 in
theorem wjX11_as_20 {p : Program} {l : Launch} {e : Env} {s : State} {m : MethodId} {args : Array Value} {below : List Frame} {meth : Method} {c : Code} {P : PT}  {r9 : Int32} {M9 : Mm} (hX : Cy p s m args c meth cX11_as 3 RX11 "as" (some .int) P)   (M : Mm) (x0 : Nat)  (h : jX11_as_20 M x0 = some (r9, M9)) : Wq p l e s m args below meth c 2 0 (some (.int r9)) M9 3 P 0 20 [(0, .ref (pB P + x0))] [] M := by
  unfold jX11_as_20 at h
  have hX0 := hX
  obtain ⟨X, hr, hlk, hnm⟩ := hX0
  have hx := X.1.1
  have hb := X.1.2.1
  intro H locs ls hM hl
  refine lv_aload_n (pc := 20) hx hb dX11_as_20 rfl (lv_at hl 0 rfl) ?_
  refine lv_iconst (pc := 21) (v := (1 : Int32)) hx hb dX11_as_21 (by decide) ?_
  obtain ⟨v2, M3, e1, h⟩ := ob2 h
  obtain ⟨fs4, hb5⟩ := (rX11_error e1)
  refine bz_callV1 (pc := 22) (As := [.int (1 : Int32)]) (rest := []) X hM hl.1 k_RX11_73 (ctX11_error l e1) rfl hb5 rfl rfl ⟨(Nat.le_of_ble_eq_true rfl), (Nat.le_of_ble_eq_true rfl)⟩ (Nat.le_of_ble_eq_true rfl) ⟨(Nat.le_of_ble_eq_true rfl), (Nat.le_of_ble_eq_true rfl)⟩ dX11_as_22 (fun H locs hM => ?_)
  obtain ⟨rfl, rfl⟩ := so2 h
  exact bz_iret (pc := 25) X hM hr hlk dX11_as_25 (Nat.le_of_ble_eq_true rfl) (Nat.le_of_ble_eq_true rfl)
set_option maxHeartbeats 4000000 in
set_option maxRecDepth 100000 in
theorem wX11_as {p : Program} {l : Launch} {e : Env} {s : State} {m : MethodId} {args : Array Value} {below : List Frame} {meth : Method} {c : Code} {P : PT}  {r9 : Int32} {M9 : Mm} (hX : Cy p s m args c meth cX11_as 3 RX11 "as" (some .int) P)  (M : Mm) (a0 : Nat) (a1 : Int32) (a2 : Int32) (h : fX11_as M a0 a1 a2 = some (r9, M9)) : Wq p l e s m args below meth c 2 0 (some (.int r9)) M9 3 P 0 0 [(0, .ref (pB P + a0)), (1, .int a1), (2, .int a2)] [] M := by
  unfold fX11_as at h
  obtain ⟨_, _, h⟩ := ob h
  have hX0 := hX
  obtain ⟨X, hr, hlk, hnm⟩ := hX0
  have hx := X.1.1
  have hb := X.1.2.1
  intro H locs ls hM hl
  refine lv_aload_n (pc := 0) hx hb dX11_as_0 rfl (lv_at hl 0 rfl) ?_
  refine lv_iload_n (pc := 1) hx hb dX11_as_1 rfl (lv_at hl 1 rfl) ?_
  obtain ⟨v2, e1, h⟩ := ob h
  obtain ⟨fs3, hb4⟩ := (rX11_isCounting e1)
  refine bz_callV1 (pc := 2) (As := [.int a1]) (rest := []) X hM hl.1 k_RX11_219 (ctX11_isCounting l e1) rfl hb4 rfl rfl ⟨(Nat.le_of_ble_eq_true rfl), (Nat.le_of_ble_eq_true rfl)⟩ (Nat.le_of_ble_eq_true rfl) ⟨(Nat.le_of_ble_eq_true rfl), (Nat.le_of_ble_eq_true rfl)⟩ dX11_as_2 (fun H locs hM => ?_)
  refine lv_if_eq (pc := 5) (tgt := 20) hx hb dX11_as_5 (by decide) (fun hc => ?_) (fun hc => ?_)
  · have h := if_t hc h
    exact wjX11_as_20 hX _ _ h H locs ls hM (lv_sub hl [0] rfl)
  · have h := if_f hc h
    refine lv_iload_n (pc := 8) hx hb dX11_as_8 rfl (lv_at hl 2 rfl) ?_
    refine lv_i2l (pc := 9) (v := ((a2).toInt64)) hx hb dX11_as_9 rfl ?_
    refine lv_lconst (pc := 10) (v := (0 : Int64)) hx hb dX11_as_10 (by decide) ?_
    refine lv_ldc2 (pc := 11) (v := (7 : Int64)) hx hb X.1.2.2.2.1 (X.1.2.2.2.2 _ g_1460) dX11_as_11 ?_
    obtain ⟨v6, e5, h⟩ := ob h
    refine bz_callS1 (pc := 14) (As := [.long ((a2).toInt64), .long (0 : Int64), .long (7 : Int64)]) (rest := []) X hM hl.1 k_RX11_57 (ctX11_in l e5) rfl rfl ⟨(Nat.le_of_ble_eq_true rfl), (Nat.le_of_ble_eq_true rfl)⟩ (Nat.le_of_ble_eq_true rfl) ⟨(Nat.le_of_ble_eq_true rfl), (Nat.le_of_ble_eq_true rfl)⟩ dX11_as_14 (fun H locs hM => ?_)
    refine lv_if_ne (pc := 17) (tgt := 26) hx hb dX11_as_17 (by decide) (fun hc => ?_) (fun hc => ?_)
    · have h := if_f hc h
      refine lv_aload_n (pc := 26) hx hb dX11_as_26 rfl (lv_at hl 0 rfl) ?_
      refine lv_iload_n (pc := 27) hx hb dX11_as_27 rfl (lv_at hl 1 rfl) ?_
      refine lv_iconst (pc := 28) (v := (0 : Int32)) hx hb dX11_as_28 (by decide) ?_
      obtain ⟨v8, e7, h⟩ := ob h
      obtain ⟨fs9, hb10⟩ := (rX11_of e7)
      refine bz_callV1 (pc := 29) (As := [.int a1, .int (0 : Int32)]) (rest := []) X hM hl.1 k_RX11_222 (ctX11_of l e7) rfl hb10 rfl rfl ⟨(Nat.le_of_ble_eq_true rfl), (Nat.le_of_ble_eq_true rfl)⟩ (Nat.le_of_ble_eq_true rfl) ⟨(Nat.le_of_ble_eq_true rfl), (Nat.le_of_ble_eq_true rfl)⟩ dX11_as_29 (fun H locs hM => ?_)
      refine lv_iload_n (pc := 32) hx hb dX11_as_32 rfl (lv_at hl 2 rfl) ?_
      obtain ⟨v12, e11, h⟩ := ob h
      refine bz_callS1 (pc := 33) (As := [.int v8, .int a2]) (rest := []) X hM hl.1 k_RX11_225 (ctX11_isUnder l e11) rfl rfl ⟨(Nat.le_of_ble_eq_true rfl), (Nat.le_of_ble_eq_true rfl)⟩ (Nat.le_of_ble_eq_true rfl) ⟨(Nat.le_of_ble_eq_true rfl), (Nat.le_of_ble_eq_true rfl)⟩ dX11_as_33 (fun H locs hM => ?_)
      refine lv_if_eq (pc := 36) (tgt := 48) hx hb dX11_as_36 (by decide) (fun hc => ?_) (fun hc => ?_)
      · have h := if_t hc h
        refine lv_aload_n (pc := 48) hx hb dX11_as_48 rfl (lv_at hl 0 rfl) ?_
        refine lv_iconst (pc := 49) (v := (5 : Int32)) hx hb dX11_as_49 (by decide) ?_
        obtain ⟨v14, M15, e13, h⟩ := ob2 h
        obtain ⟨fs16, hb17⟩ := (rX11_error e13)
        refine bz_callV1 (pc := 50) (As := [.int (5 : Int32)]) (rest := []) X hM hl.1 k_RX11_73 (ctX11_error l e13) rfl hb17 rfl rfl ⟨(Nat.le_of_ble_eq_true rfl), (Nat.le_of_ble_eq_true rfl)⟩ (Nat.le_of_ble_eq_true rfl) ⟨(Nat.le_of_ble_eq_true rfl), (Nat.le_of_ble_eq_true rfl)⟩ dX11_as_50 (fun H locs hM => ?_)
        obtain ⟨rfl, rfl⟩ := so2 h
        exact bz_iret (pc := 53) X hM hr hlk dX11_as_53 (Nat.le_of_ble_eq_true rfl) (Nat.le_of_ble_eq_true rfl)
      · have h := if_f hc h
        refine lv_aload_n (pc := 39) hx hb dX11_as_39 rfl (lv_at hl 0 rfl) ?_
        refine lv_iload_n (pc := 40) hx hb dX11_as_40 rfl (lv_at hl 1 rfl) ?_
        refine lv_iconst (pc := 41) (v := (2 : Int32)) hx hb dX11_as_41 (by decide) ?_
        obtain ⟨v19, e18, h⟩ := ob h
        obtain ⟨fs20, hb21⟩ := (rX11_of e18)
        refine bz_callV1 (pc := 42) (As := [.int a1, .int (2 : Int32)]) (rest := []) X hM hl.1 k_RX11_222 (ctX11_of l e18) rfl hb21 rfl rfl ⟨(Nat.le_of_ble_eq_true rfl), (Nat.le_of_ble_eq_true rfl)⟩ (Nat.le_of_ble_eq_true rfl) ⟨(Nat.le_of_ble_eq_true rfl), (Nat.le_of_ble_eq_true rfl)⟩ dX11_as_42 (fun H locs hM => ?_)
        refine lv_goto (pc := 45) (tgt := 53) hx hb dX11_as_45 (by decide) ?_
        obtain ⟨rfl, rfl⟩ := so2 h
        exact bz_iret (pc := 53) X hM hr hlk dX11_as_53 (Nat.le_of_ble_eq_true rfl) (Nat.le_of_ble_eq_true rfl)
    · have h := if_t hc h
      exact wjX11_as_20 hX _ _ h H locs ls hM (lv_sub hl [0] rfl)
theorem rX11_as {M : Mm} {a0 : Nat} {a1 : Int32} {a2 : Int32} {r9 : Int32 × Mm} (h : fX11_as M a0 a1 a2 = some r9) : ∃ fs, M[a0]? = some (.inr (11, fs)) := by
  unfold fX11_as at h
  obtain ⟨_, e1, _⟩ := ob h
  exact gC_spec e1
theorem ctX11_as (l : Launch) {P : PT} {M : Mm} {a0 : Nat} {a1 : Int32} {a2 : Int32} {r9 : Int32} {M9 : Mm} (h : fX11_as M a0 a1 a2 = some (r9, M9)) : Ct l yX11_as cX11_as 3 (some .int) 2 0 P [.ref (pB P + a0), .int a1, .int a2] M (some (.int r9)) M9 :=
  Ct.mk (by decide +kernel) (Nat.le_of_ble_eq_true rfl) (fun p e s m args below meth c hX => wX11_as hX M a0 a1 a2 h)
set_option maxHeartbeats 4000000 in
set_option maxRecDepth 100000 in
theorem wBX1_warm_4 {p : Program} {l : Launch} {e : Env} {s : State} {m : MethodId} {args : Array Value} {below : List Frame} {meth : Method} {c : Code} {P : PT} {N : Nat} {K4 : Mm → Nat → Nat → Int32 → Int32 → Option (Int32 × Mm)}  {r9 : Int32} {M9 : Mm} (hX : Cy p s m args c meth cX1_warm 4 RX1 "warm" (some .int) P)  (hK4 : ∀ (M : Mm) (x0 : Nat) (x1 : Nat) (x2 : Int32) (x3 : Int32), K4 M x0 x1 x2 x3 = some (r9, M9) → Wq p l e s m args below meth c 2 0 (some (.int r9)) M9 4 P 0 4 [(0, .ref (pB P + x0)), (1, .ref (pB P + x1)), (2, .int x2), (3, .int x3)] [] M) (M : Mm) (x0 : Nat) (x1 : Nat) (x2 : Int32) (x3 : Int32)  (h : BX1_warm_4 N K4 M x0 x1 x2 x3 = some (r9, M9)) : Wq p l e s m args below meth c 2 0 (some (.int r9)) M9 4 P 0 4 [(0, .ref (pB P + x0)), (1, .ref (pB P + x1)), (2, .int x2), (3, .int x3)] [] M := by
  unfold BX1_warm_4 at h
  have hX0 := hX
  obtain ⟨X, hr, hlk, hnm⟩ := hX0
  have hx := X.1.1
  have hb := X.1.2.1
  intro H locs ls hM hl
  refine lv_iload_n (pc := 4) hx hb dX1_warm_4 rfl (lv_at hl 3 rfl) ?_
  refine lv_iconst (pc := 5) (v := (5 : Int32)) hx hb dX1_warm_5 (by decide) ?_
  refine lv_icmp_gt (pc := 6) (tgt := 32) hx hb dX1_warm_6 (by decide) (fun hc => ?_) (fun hc => ?_)
  · have h := if_t hc h
    refine lv_iload_n (pc := 32) hx hb dX1_warm_32 rfl (lv_at hl 2 rfl) ?_
    refine lv_iconst (pc := 33) (v := (5 : Int32)) hx hb dX1_warm_33 (by decide) ?_
    refine lv_idiv (pc := 34) hx hb dX1_warm_34 (by decide) ?_
    obtain ⟨rfl, rfl⟩ := so2 h
    exact bz_iret (pc := 35) X hM hr hlk dX1_warm_35 (Nat.le_of_ble_eq_true rfl) (Nat.le_of_ble_eq_true rfl)
  · have h := if_f hc h
    refine lv_iload_n (pc := 9) hx hb dX1_warm_9 rfl (lv_at hl 2 rfl) ?_
    refine lv_aload_n (pc := 10) hx hb dX1_warm_10 rfl (lv_at hl 0 rfl) ?_
    refine lv_aload_n (pc := 11) hx hb dX1_warm_11 rfl (lv_at hl 1 rfl) ?_
    obtain ⟨v1, e2, h⟩ := ob h
    refine bz_getI (pc := 12) X hM fl_RX1_70 e2 dX1_warm_12 ?_
    refine lv_iload_n (pc := 15) hx hb dX1_warm_15 rfl (lv_at hl 3 rfl) ?_
    refine lv_aload_n (pc := 16) hx hb dX1_warm_16 rfl (lv_at hl 1 rfl) ?_
    obtain ⟨v3, e4, h⟩ := ob h
    refine bz_getI (pc := 17) X hM fl_RX1_95 e4 dX1_warm_17 ?_
    refine lv_imul (pc := 20) hx hb dX1_warm_20 ?_
    obtain ⟨v6, M7, e5, h⟩ := ob2 h
    obtain ⟨fs8, hb9⟩ := (rX1_meeting e5)
    refine bz_callV1 (pc := 21) (As := [.int v1, .int (x3 * v3)]) (rest := [.int x2]) X hM hl.1 k_RX1_80 (ctX1_meeting l e5) rfl hb9 rfl rfl ⟨(Nat.le_of_ble_eq_true rfl), (Nat.le_of_ble_eq_true rfl)⟩ (Nat.le_of_ble_eq_true rfl) ⟨(Nat.le_of_ble_eq_true rfl), (Nat.le_of_ble_eq_true rfl)⟩ dX1_warm_21 (fun H locs hM => ?_)
    refine lv_iadd (pc := 24) hx hb dX1_warm_24 ?_
    refine lv_istore_n (pc := 25) (lv' := [(2, .int (x2 + v6)), (0, .ref (pB P + x0)), (1, .ref (pB P + x1)), (3, .int x3)]) hx hb dX1_warm_25 rfl hl (by decide) rfl (fun ls hl => ?_)
    refine lv_iinc (pc := 26) (v := (x3 + (1 : Int32))) (lv' := [(3, .int (x3 + (1 : Int32))), (2, .int (x2 + v6)), (0, .ref (pB P + x0)), (1, .ref (pB P + x1))]) hx hb dX1_warm_26 hl (k := 3) rfl rfl (by decide) rfl (fun ls hl => ?_)
    refine lv_goto (pc := 29) (tgt := 4) hx hb dX1_warm_29 (by decide) ?_
    exact hK4 _ _ _ _ _ h H locs ls hM (lv_sub hl [2, 3, 1, 0] rfl)
set_option maxHeartbeats 4000000 in
set_option maxRecDepth 100000 in
theorem wLX1_warm_4 {p : Program} {l : Launch} {e : Env} {s : State} {m : MethodId} {args : Array Value} {below : List Frame} {meth : Method} {c : Code} {P : PT} {N : Nat}  {r9 : Int32} {M9 : Mm} (hX : Cy p s m args c meth cX1_warm 4 RX1 "warm" (some .int) P)   : ∀ (n : Nat) (M : Mm) (x0 : Nat) (x1 : Nat) (x2 : Int32) (x3 : Int32) , LX1_warm_4 N n M x0 x1 x2 x3 = some (r9, M9) → Wq p l e s m args below meth c 2 0 (some (.int r9)) M9 4 P 0 4 [(0, .ref (pB P + x0)), (1, .ref (pB P + x1)), (2, .int x2), (3, .int x3)] [] M := by
  intro n
  induction n with
  | zero => intro M x0 x1 x2 x3 h; cases h
  | succ n ih => intro M x0 x1 x2 x3 h; exact wBX1_warm_4 hX ih M x0 x1 x2 x3 h
set_option maxHeartbeats 4000000 in
set_option maxRecDepth 100000 in
theorem wX1_warm {p : Program} {l : Launch} {e : Env} {s : State} {m : MethodId} {args : Array Value} {below : List Frame} {meth : Method} {c : Code} {P : PT} {N : Nat}  {r9 : Int32} {M9 : Mm} (hX : Cy p s m args c meth cX1_warm 4 RX1 "warm" (some .int) P)  (M : Mm) (a0 : Nat) (a1 : Nat) (h : fX1_warm N M a0 a1 = some (r9, M9)) : Wq p l e s m args below meth c 2 0 (some (.int r9)) M9 4 P 0 0 [(0, .ref (pB P + a0)), (1, .ref (pB P + a1))] [] M := by
  unfold fX1_warm at h
  obtain ⟨_, _, h⟩ := ob h
  have hX0 := hX
  obtain ⟨X, hr, hlk, hnm⟩ := hX0
  have hx := X.1.1
  have hb := X.1.2.1
  intro H locs ls hM hl
  refine lv_iconst (pc := 0) (v := (0 : Int32)) hx hb dX1_warm_0 (by decide) ?_
  refine lv_istore_n (pc := 1) (lv' := [(2, .int (0 : Int32)), (0, .ref (pB P + a0)), (1, .ref (pB P + a1))]) hx hb dX1_warm_1 rfl hl (by decide) rfl (fun ls hl => ?_)
  refine lv_iconst (pc := 2) (v := (1 : Int32)) hx hb dX1_warm_2 (by decide) ?_
  refine lv_istore_n (pc := 3) (lv' := [(3, .int (1 : Int32)), (2, .int (0 : Int32)), (0, .ref (pB P + a0)), (1, .ref (pB P + a1))]) hx hb dX1_warm_3 rfl hl (by decide) rfl (fun ls hl => ?_)
  exact wLX1_warm_4 hX _ _ _ _ _ _ h H locs ls hM (lv_sub hl [2, 3, 1, 0] rfl)
theorem rX1_warm {N : Nat} {M : Mm} {a0 : Nat} {a1 : Nat} {r9 : Int32 × Mm} (h : fX1_warm N M a0 a1 = some r9) : ∃ fs, M[a0]? = some (.inr (1, fs)) := by
  unfold fX1_warm at h
  obtain ⟨_, e1, _⟩ := ob h
  exact gC_spec e1
theorem ctX1_warm (l : Launch) {P : PT} {N : Nat} {M : Mm} {a0 : Nat} {a1 : Nat} {r9 : Int32} {M9 : Mm} (h : fX1_warm N M a0 a1 = some (r9, M9)) : Ct l yX1_warm cX1_warm 4 (some .int) 2 0 P [.ref (pB P + a0), .ref (pB P + a1)] M (some (.int r9)) M9 :=
  Ct.mk (by decide +kernel) (Nat.le_of_ble_eq_true rfl) (fun p e s m args below meth c hX => wX1_warm hX M a0 a1 h)
set_option maxHeartbeats 4000000 in
set_option maxRecDepth 100000 in
theorem wBX1_lined_8 {p : Program} {l : Launch} {e : Env} {s : State} {m : MethodId} {args : Array Value} {below : List Frame} {meth : Method} {c : Code} {P : PT} {N : Nat} {K8 : Mm → Nat → Nat → Int32 → Int32 → Option (Int32 × Mm)}  {r9 : Int32} {M9 : Mm} (hX : Cy p s m args c meth cX1_lined 4 RX1 "lined" (some .int) P)  (hK8 : ∀ (M : Mm) (x0 : Nat) (x1 : Nat) (x2 : Int32) (x3 : Int32), K8 M x0 x1 x2 x3 = some (r9, M9) → Wq p l e s m args below meth c 4 0 (some (.int r9)) M9 4 P 0 8 [(0, .ref (pB P + x0)), (1, .ref (pB P + x1)), (2, .int x2), (3, .int x3)] [] M) (M : Mm) (x0 : Nat) (x1 : Nat) (x2 : Int32) (x3 : Int32)  (h : BX1_lined_8 N K8 M x0 x1 x2 x3 = some (r9, M9)) : Wq p l e s m args below meth c 4 0 (some (.int r9)) M9 4 P 0 8 [(0, .ref (pB P + x0)), (1, .ref (pB P + x1)), (2, .int x2), (3, .int x3)] [] M := by
  unfold BX1_lined_8 at h
  have hX0 := hX
  obtain ⟨X, hr, hlk, hnm⟩ := hX0
  have hx := X.1.1
  have hb := X.1.2.1
  intro H locs ls hM hl
  refine lv_iload_n (pc := 8) hx hb dX1_lined_8 rfl (lv_at hl 3 rfl) ?_
  refine lv_sipush (pc := 9) (v := (999 : Int32)) hx hb dX1_lined_9 (by decide) ?_
  refine lv_icmp_gt (pc := 12) (tgt := 53) hx hb dX1_lined_12 (by decide) (fun hc => ?_) (fun hc => ?_)
  · have h := if_t hc h
    refine lv_iload_n (pc := 53) hx hb dX1_lined_53 rfl (lv_at hl 2 rfl) ?_
    obtain ⟨rfl, rfl⟩ := so2 h
    exact bz_iret (pc := 54) X hM hr hlk dX1_lined_54 (Nat.le_of_ble_eq_true rfl) (Nat.le_of_ble_eq_true rfl)
  · have h := if_f hc h
    refine lv_aload_n (pc := 15) hx hb dX1_lined_15 rfl (lv_at hl 0 rfl) ?_
    refine lv_iload_n (pc := 16) hx hb dX1_lined_16 rfl (lv_at hl 3 rfl) ?_
    obtain ⟨M2, e1, h⟩ := ob h
    obtain ⟨fs3, hb4⟩ := (rX1_drawLine e1)
    refine bz_callV0 (pc := 17) (As := [.int x3]) (rest := []) X hM hl.1 k_RX1_67 (ctX1_drawLine l e1) rfl hb4 rfl rfl ⟨(Nat.le_of_ble_eq_true rfl), (Nat.le_of_ble_eq_true rfl)⟩ (Nat.le_of_ble_eq_true rfl) ⟨(Nat.le_of_ble_eq_true rfl), (Nat.le_of_ble_eq_true rfl)⟩ dX1_lined_17 (fun H locs hM => ?_)
    refine lv_iload_n (pc := 20) hx hb dX1_lined_20 rfl (lv_at hl 2 rfl) ?_
    refine lv_aload_n (pc := 21) hx hb dX1_lined_21 rfl (lv_at hl 0 rfl) ?_
    refine lv_aload_n (pc := 22) hx hb dX1_lined_22 rfl (lv_at hl 1 rfl) ?_
    obtain ⟨v5, e6, h⟩ := ob h
    refine bz_getI (pc := 23) X hM fl_RX1_70 e6 dX1_lined_23 ?_
    refine lv_iconst (pc := 26) (v := (0 : Int32)) hx hb dX1_lined_26 (by decide) ?_
    obtain ⟨v8, M9, e7, h⟩ := ob2 h
    obtain ⟨fs10, hb11⟩ := (rX1_meeting e7)
    refine bz_callV1 (pc := 27) (As := [.int v5, .int (0 : Int32)]) (rest := [.int x2]) X hM hl.1 k_RX1_80 (ctX1_meeting l e7) rfl hb11 rfl rfl ⟨(Nat.le_of_ble_eq_true rfl), (Nat.le_of_ble_eq_true rfl)⟩ (Nat.le_of_ble_eq_true rfl) ⟨(Nat.le_of_ble_eq_true rfl), (Nat.le_of_ble_eq_true rfl)⟩ dX1_lined_27 (fun H locs hM => ?_)
    refine lv_aload_n (pc := 30) hx hb dX1_lined_30 rfl (lv_at hl 0 rfl) ?_
    refine lv_aload_n (pc := 31) hx hb dX1_lined_31 rfl (lv_at hl 1 rfl) ?_
    obtain ⟨v12, e13, h⟩ := ob h
    refine bz_getI (pc := 32) X hM fl_RX1_70 e13 dX1_lined_32 ?_
    refine lv_aload_n (pc := 35) hx hb dX1_lined_35 rfl (lv_at hl 1 rfl) ?_
    obtain ⟨v14, e15, h⟩ := ob h
    refine bz_getI (pc := 36) X hM fl_RX1_95 e15 dX1_lined_36 ?_
    obtain ⟨v17, M18, e16, h⟩ := ob2 h
    obtain ⟨fs19, hb20⟩ := (rX1_meeting e16)
    refine bz_callV1 (pc := 39) (As := [.int v12, .int v14]) (rest := [.int v8, .int x2]) X hM hl.1 k_RX1_80 (ctX1_meeting l e16) rfl hb20 rfl rfl ⟨(Nat.le_of_ble_eq_true rfl), (Nat.le_of_ble_eq_true rfl)⟩ (Nat.le_of_ble_eq_true rfl) ⟨(Nat.le_of_ble_eq_true rfl), (Nat.le_of_ble_eq_true rfl)⟩ dX1_lined_39 (fun H locs hM => ?_)
    refine lv_isub (pc := 42) hx hb dX1_lined_42 ?_
    obtain ⟨v22, e21, h⟩ := ob h
    refine bz_callS1 (pc := 43) (As := [.int x2, .int (v8 - v17)]) (rest := []) X hM hl.1 k_RX1_84 (ctJ9_max_7cf53 l e21) rfl rfl ⟨(Nat.le_of_ble_eq_true rfl), (Nat.le_of_ble_eq_true rfl)⟩ (Nat.le_of_ble_eq_true rfl) ⟨(Nat.le_of_ble_eq_true rfl), (Nat.le_of_ble_eq_true rfl)⟩ dX1_lined_43 (fun H locs hM => ?_)
    refine lv_istore_n (pc := 46) (lv' := [(2, .int v22), (0, .ref (pB P + x0)), (1, .ref (pB P + x1)), (3, .int x3)]) hx hb dX1_lined_46 rfl hl (by decide) rfl (fun ls hl => ?_)
    refine lv_iinc (pc := 47) (v := (x3 + (50 : Int32))) (lv' := [(3, .int (x3 + (50 : Int32))), (2, .int v22), (0, .ref (pB P + x0)), (1, .ref (pB P + x1))]) hx hb dX1_lined_47 hl (k := 3) rfl rfl (by decide) rfl (fun ls hl => ?_)
    refine lv_goto (pc := 50) (tgt := 8) hx hb dX1_lined_50 (by decide) ?_
    exact hK8 _ _ _ _ _ h H locs ls hM (lv_sub hl [2, 3, 1, 0] rfl)
set_option maxHeartbeats 4000000 in
set_option maxRecDepth 100000 in
theorem wLX1_lined_8 {p : Program} {l : Launch} {e : Env} {s : State} {m : MethodId} {args : Array Value} {below : List Frame} {meth : Method} {c : Code} {P : PT} {N : Nat}  {r9 : Int32} {M9 : Mm} (hX : Cy p s m args c meth cX1_lined 4 RX1 "lined" (some .int) P)   : ∀ (n : Nat) (M : Mm) (x0 : Nat) (x1 : Nat) (x2 : Int32) (x3 : Int32) , LX1_lined_8 N n M x0 x1 x2 x3 = some (r9, M9) → Wq p l e s m args below meth c 4 0 (some (.int r9)) M9 4 P 0 8 [(0, .ref (pB P + x0)), (1, .ref (pB P + x1)), (2, .int x2), (3, .int x3)] [] M := by
  intro n
  induction n with
  | zero => intro M x0 x1 x2 x3 h; cases h
  | succ n ih => intro M x0 x1 x2 x3 h; exact wBX1_lined_8 hX ih M x0 x1 x2 x3 h
set_option maxHeartbeats 4000000 in
set_option maxRecDepth 100000 in
theorem wX1_lined {p : Program} {l : Launch} {e : Env} {s : State} {m : MethodId} {args : Array Value} {below : List Frame} {meth : Method} {c : Code} {P : PT} {N : Nat}  {r9 : Int32} {M9 : Mm} (hX : Cy p s m args c meth cX1_lined 4 RX1 "lined" (some .int) P)  (M : Mm) (a0 : Nat) (a1 : Nat) (h : fX1_lined N M a0 a1 = some (r9, M9)) : Wq p l e s m args below meth c 4 0 (some (.int r9)) M9 4 P 0 0 [(0, .ref (pB P + a0)), (1, .ref (pB P + a1))] [] M := by
  unfold fX1_lined at h
  obtain ⟨_, _, h⟩ := ob h
  have hX0 := hX
  obtain ⟨X, hr, hlk, hnm⟩ := hX0
  have hx := X.1.1
  have hb := X.1.2.1
  intro H locs ls hM hl
  refine lv_bipush (pc := 0) (v := (-96 : Int32)) hx hb dX1_lined_0 (by decide) ?_
  refine lv_istore_n (pc := 2) (lv' := [(2, .int (-96 : Int32)), (0, .ref (pB P + a0)), (1, .ref (pB P + a1))]) hx hb dX1_lined_2 rfl hl (by decide) rfl (fun ls hl => ?_)
  refine lv_aload_n (pc := 3) hx hb dX1_lined_3 rfl (lv_at hl 2 rfl) ?_
  obtain ⟨v1, e2, h⟩ := ob h
  refine bz_getI (pc := 4) X hM fl_RX1_61 e2 dX1_lined_4 ?_
  refine lv_istore_n (pc := 7) (lv' := [(3, .int v1), (2, .int (-96 : Int32)), (0, .ref (pB P + a0)), (1, .ref (pB P + a1))]) hx hb dX1_lined_7 rfl hl (by decide) rfl (fun ls hl => ?_)
  exact wLX1_lined_8 hX _ _ _ _ _ _ h H locs ls hM (lv_sub hl [2, 3, 1, 0] rfl)
theorem rX1_lined {N : Nat} {M : Mm} {a0 : Nat} {a1 : Nat} {r9 : Int32 × Mm} (h : fX1_lined N M a0 a1 = some r9) : ∃ fs, M[a0]? = some (.inr (1, fs)) := by
  unfold fX1_lined at h
  obtain ⟨_, e1, _⟩ := ob h
  exact gC_spec e1
theorem ctX1_lined (l : Launch) {P : PT} {N : Nat} {M : Mm} {a0 : Nat} {a1 : Nat} {r9 : Int32} {M9 : Mm} (h : fX1_lined N M a0 a1 = some (r9, M9)) : Ct l yX1_lined cX1_lined 4 (some .int) 4 0 P [.ref (pB P + a0), .ref (pB P + a1)] M (some (.int r9)) M9 :=
  Ct.mk (by decide +kernel) (Nat.le_of_ble_eq_true rfl) (fun p e s m args below meth c hX => wX1_lined hX M a0 a1 h)
set_option maxHeartbeats 4000000 in
set_option maxRecDepth 100000 in
theorem wjX1_nearTwo_73 {p : Program} {l : Launch} {e : Env} {s : State} {m : MethodId} {args : Array Value} {below : List Frame} {meth : Method} {c : Code} {P : PT} {N : Nat} {K16 : Mm → Nat → Int32 → Nat → Int32 → Int32 → Int32 → Option (Int32)}  {r9 : Int32} (hX : Cy p s m args c meth cX1_nearTwo 7 RX1 "nearTwo" (some .int) P)  (hK16 : ∀ (M : Mm) (x0 : Nat) (x1 : Int32) (x2 : Nat) (x3 : Int32) (x4 : Int32) (x5 : Int32), K16 M x0 x1 x2 x3 x4 x5 = some r9 → Wq p l e s m args below meth c 1 0 (some (.int r9)) M 7 P 0 16 [(0, .ref (pB P + x0)), (1, .int x1), (2, .ref (pB P + x2)), (3, .int x3), (4, .int x4), (5, .int x5)] [] M) (M : Mm) (x0 : Nat) (x1 : Int32) (x2 : Nat) (x3 : Int32) (x4 : Int32) (x5 : Int32) (x6 : Int32)  (h : jX1_nearTwo_73 N K16 M x0 x1 x2 x3 x4 x5 x6 = some r9) : Wq p l e s m args below meth c 1 0 (some (.int r9)) M 7 P 0 73 [(0, .ref (pB P + x0)), (1, .int x1), (2, .ref (pB P + x2)), (3, .int x3), (4, .int x4), (5, .int x5), (6, .int x6)] [] M := by
  unfold jX1_nearTwo_73 at h
  have hX0 := hX
  obtain ⟨X, hr, hlk, hnm⟩ := hX0
  have hx := X.1.1
  have hb := X.1.2.1
  intro H locs ls hM hl
  refine lv_iload (pc := 73) hx hb dX1_nearTwo_73 (lv_at hl 4 rfl) ?_
  refine lv_iconst (pc := 75) (v := (1 : Int32)) hx hb dX1_nearTwo_75 (by decide) ?_
  refine lv_iadd (pc := 76) hx hb dX1_nearTwo_76 ?_
  refine lv_aload_n (pc := 77) hx hb dX1_nearTwo_77 rfl (lv_at hl 2 rfl) ?_
  obtain ⟨v2, e1, h⟩ := ob h
  obtain ⟨fs3, hb4⟩ := (rX3_size e1)
  refine bz_callV1 (pc := 78) (As := []) (rest := [.int (x4 + (1 : Int32))]) X hM hl.1 k_RX1_46 (ctX3_size l e1) rfl hb4 rfl rfl ⟨(Nat.le_of_ble_eq_true rfl), (Nat.le_of_ble_eq_true rfl)⟩ (Nat.le_of_ble_eq_true rfl) ⟨(Nat.le_of_ble_eq_true rfl), (Nat.le_of_ble_eq_true rfl)⟩ dX1_nearTwo_78 (fun H locs hM => ?_)
  refine lv_icmp_ge (pc := 81) (tgt := 102) hx hb dX1_nearTwo_81 (by decide) (fun hc => ?_) (fun hc => ?_)
  · have h := if_t hc h
    refine lv_iinc (pc := 102) (v := (x5 + (1 : Int32))) (lv' := [(5, .int (x5 + (1 : Int32))), (0, .ref (pB P + x0)), (1, .int x1), (2, .ref (pB P + x2)), (3, .int x3), (4, .int x4), (6, .int x6)]) hx hb dX1_nearTwo_102 hl (k := 5) rfl rfl (by decide) rfl (fun ls hl => ?_)
    refine lv_goto (pc := 105) (tgt := 16) hx hb dX1_nearTwo_105 (by decide) ?_
    exact hK16 _ _ _ _ _ _ _ h H locs ls hM (lv_sub hl [1, 2, 3, 4, 5, 0] rfl)
  · have h := if_f hc h
    refine lv_aload_n (pc := 84) hx hb dX1_nearTwo_84 rfl (lv_at hl 2 rfl) ?_
    refine lv_iload (pc := 85) hx hb dX1_nearTwo_85 (lv_at hl 4 rfl) ?_
    refine lv_iconst (pc := 87) (v := (1 : Int32)) hx hb dX1_nearTwo_87 (by decide) ?_
    refine lv_iadd (pc := 88) hx hb dX1_nearTwo_88 ?_
    obtain ⟨v6, e5, h⟩ := ob h
    obtain ⟨fs7, hb8⟩ := (rX3_at e5)
    refine bz_callV1 (pc := 89) (As := [.int (x4 + (1 : Int32))]) (rest := []) X hM hl.1 k_RX1_50 (ctX3_at l e5) rfl hb8 rfl rfl ⟨(Nat.le_of_ble_eq_true rfl), (Nat.le_of_ble_eq_true rfl)⟩ (Nat.le_of_ble_eq_true rfl) ⟨(Nat.le_of_ble_eq_true rfl), (Nat.le_of_ble_eq_true rfl)⟩ dX1_nearTwo_89 (fun H locs hM => ?_)
    refine lv_iload (pc := 92) hx hb dX1_nearTwo_92 (lv_at hl 6 rfl) ?_
    refine lv_iload_n (pc := 94) hx hb dX1_nearTwo_94 rfl (lv_at hl 1 rfl) ?_
    refine lv_iadd (pc := 95) hx hb dX1_nearTwo_95 ?_
    refine lv_icmp_gt (pc := 96) (tgt := 102) hx hb dX1_nearTwo_96 (by decide) (fun hc => ?_) (fun hc => ?_)
    · have h := if_t hc h
      refine lv_iinc (pc := 102) (v := (x5 + (1 : Int32))) (lv' := [(5, .int (x5 + (1 : Int32))), (0, .ref (pB P + x0)), (1, .int x1), (2, .ref (pB P + x2)), (3, .int x3), (4, .int x4), (6, .int x6)]) hx hb dX1_nearTwo_102 hl (k := 5) rfl rfl (by decide) rfl (fun ls hl => ?_)
      refine lv_goto (pc := 105) (tgt := 16) hx hb dX1_nearTwo_105 (by decide) ?_
      exact hK16 _ _ _ _ _ _ _ h H locs ls hM (lv_sub hl [1, 2, 3, 4, 5, 0] rfl)
    · have h := if_f hc h
      refine lv_iinc (pc := 99) (v := (x3 + (1 : Int32))) (lv' := [(3, .int (x3 + (1 : Int32))), (0, .ref (pB P + x0)), (1, .int x1), (2, .ref (pB P + x2)), (4, .int x4), (5, .int x5), (6, .int x6)]) hx hb dX1_nearTwo_99 hl (k := 3) rfl rfl (by decide) rfl (fun ls hl => ?_)
      refine lv_iinc (pc := 102) (v := (x5 + (1 : Int32))) (lv' := [(5, .int (x5 + (1 : Int32))), (3, .int (x3 + (1 : Int32))), (0, .ref (pB P + x0)), (1, .int x1), (2, .ref (pB P + x2)), (4, .int x4), (6, .int x6)]) hx hb dX1_nearTwo_102 hl (k := 5) rfl rfl (by decide) rfl (fun ls hl => ?_)
      refine lv_goto (pc := 105) (tgt := 16) hx hb dX1_nearTwo_105 (by decide) ?_
      exact hK16 _ _ _ _ _ _ _ h H locs ls hM (lv_sub hl [2, 3, 4, 1, 5, 0] rfl)
set_option maxHeartbeats 4000000 in
set_option maxRecDepth 100000 in
theorem wBX1_nearTwo_45 {p : Program} {l : Launch} {e : Env} {s : State} {m : MethodId} {args : Array Value} {below : List Frame} {meth : Method} {c : Code} {P : PT} {N : Nat} {K16 : Mm → Nat → Int32 → Nat → Int32 → Int32 → Int32 → Option (Int32)} {K45 : Mm → Nat → Int32 → Nat → Int32 → Int32 → Int32 → Int32 → Option (Int32)}  {r9 : Int32} (hX : Cy p s m args c meth cX1_nearTwo 7 RX1 "nearTwo" (some .int) P)  (hK16 : ∀ (M : Mm) (x0 : Nat) (x1 : Int32) (x2 : Nat) (x3 : Int32) (x4 : Int32) (x5 : Int32), K16 M x0 x1 x2 x3 x4 x5 = some r9 → Wq p l e s m args below meth c 1 0 (some (.int r9)) M 7 P 0 16 [(0, .ref (pB P + x0)), (1, .int x1), (2, .ref (pB P + x2)), (3, .int x3), (4, .int x4), (5, .int x5)] [] M) (hK45 : ∀ (M : Mm) (x0 : Nat) (x1 : Int32) (x2 : Nat) (x3 : Int32) (x4 : Int32) (x5 : Int32) (x6 : Int32), K45 M x0 x1 x2 x3 x4 x5 x6 = some r9 → Wq p l e s m args below meth c 1 0 (some (.int r9)) M 7 P 0 45 [(0, .ref (pB P + x0)), (1, .int x1), (2, .ref (pB P + x2)), (3, .int x3), (4, .int x4), (5, .int x5), (6, .int x6)] [] M) (M : Mm) (x0 : Nat) (x1 : Int32) (x2 : Nat) (x3 : Int32) (x4 : Int32) (x5 : Int32) (x6 : Int32)  (h : BX1_nearTwo_45 N K16 K45 M x0 x1 x2 x3 x4 x5 x6 = some r9) : Wq p l e s m args below meth c 1 0 (some (.int r9)) M 7 P 0 45 [(0, .ref (pB P + x0)), (1, .int x1), (2, .ref (pB P + x2)), (3, .int x3), (4, .int x4), (5, .int x5), (6, .int x6)] [] M := by
  unfold BX1_nearTwo_45 at h
  have hX0 := hX
  obtain ⟨X, hr, hlk, hnm⟩ := hX0
  have hx := X.1.1
  have hb := X.1.2.1
  intro H locs ls hM hl
  refine lv_iload (pc := 45) hx hb dX1_nearTwo_45 (lv_at hl 4 rfl) ?_
  refine lv_aload_n (pc := 47) hx hb dX1_nearTwo_47 rfl (lv_at hl 2 rfl) ?_
  obtain ⟨v2, e1, h⟩ := ob h
  obtain ⟨fs3, hb4⟩ := (rX3_size e1)
  refine bz_callV1 (pc := 48) (As := []) (rest := [.int x4]) X hM hl.1 k_RX1_46 (ctX3_size l e1) rfl hb4 rfl rfl ⟨(Nat.le_of_ble_eq_true rfl), (Nat.le_of_ble_eq_true rfl)⟩ (Nat.le_of_ble_eq_true rfl) ⟨(Nat.le_of_ble_eq_true rfl), (Nat.le_of_ble_eq_true rfl)⟩ dX1_nearTwo_48 (fun H locs hM => ?_)
  refine lv_icmp_ge (pc := 51) (tgt := 73) hx hb dX1_nearTwo_51 (by decide) (fun hc => ?_) (fun hc => ?_)
  · have h := if_t hc h
    exact wjX1_nearTwo_73 hX hK16 _ _ _ _ _ _ _ _ h H locs ls hM (lv_sub hl [0, 1, 2, 3, 4, 5, 6] rfl)
  · have h := if_f hc h
    refine lv_aload_n (pc := 54) hx hb dX1_nearTwo_54 rfl (lv_at hl 2 rfl) ?_
    refine lv_iload (pc := 55) hx hb dX1_nearTwo_55 (lv_at hl 4 rfl) ?_
    obtain ⟨v6, e5, h⟩ := ob h
    obtain ⟨fs7, hb8⟩ := (rX3_at e5)
    refine bz_callV1 (pc := 57) (As := [.int x4]) (rest := []) X hM hl.1 k_RX1_50 (ctX3_at l e5) rfl hb8 rfl rfl ⟨(Nat.le_of_ble_eq_true rfl), (Nat.le_of_ble_eq_true rfl)⟩ (Nat.le_of_ble_eq_true rfl) ⟨(Nat.le_of_ble_eq_true rfl), (Nat.le_of_ble_eq_true rfl)⟩ dX1_nearTwo_57 (fun H locs hM => ?_)
    refine lv_iload (pc := 60) hx hb dX1_nearTwo_60 (lv_at hl 6 rfl) ?_
    refine lv_iload_n (pc := 62) hx hb dX1_nearTwo_62 rfl (lv_at hl 1 rfl) ?_
    refine lv_isub (pc := 63) hx hb dX1_nearTwo_63 ?_
    refine lv_icmp_ge (pc := 64) (tgt := 73) hx hb dX1_nearTwo_64 (by decide) (fun hc => ?_) (fun hc => ?_)
    · have h := if_t hc h
      exact wjX1_nearTwo_73 hX hK16 _ _ _ _ _ _ _ _ h H locs ls hM (lv_sub hl [0, 1, 2, 3, 4, 5, 6] rfl)
    · have h := if_f hc h
      refine lv_iinc (pc := 67) (v := (x4 + (1 : Int32))) (lv' := [(4, .int (x4 + (1 : Int32))), (0, .ref (pB P + x0)), (1, .int x1), (2, .ref (pB P + x2)), (3, .int x3), (5, .int x5), (6, .int x6)]) hx hb dX1_nearTwo_67 hl (k := 4) rfl rfl (by decide) rfl (fun ls hl => ?_)
      refine lv_goto (pc := 70) (tgt := 45) hx hb dX1_nearTwo_70 (by decide) ?_
      exact hK45 _ _ _ _ _ _ _ _ h H locs ls hM (lv_sub hl [1, 2, 3, 4, 0, 5, 6] rfl)
set_option maxHeartbeats 4000000 in
set_option maxRecDepth 100000 in
theorem wLX1_nearTwo_45 {p : Program} {l : Launch} {e : Env} {s : State} {m : MethodId} {args : Array Value} {below : List Frame} {meth : Method} {c : Code} {P : PT} {N : Nat} {K16 : Mm → Nat → Int32 → Nat → Int32 → Int32 → Int32 → Option (Int32)}  {r9 : Int32} (hX : Cy p s m args c meth cX1_nearTwo 7 RX1 "nearTwo" (some .int) P)  (hK16 : ∀ (M : Mm) (x0 : Nat) (x1 : Int32) (x2 : Nat) (x3 : Int32) (x4 : Int32) (x5 : Int32), K16 M x0 x1 x2 x3 x4 x5 = some r9 → Wq p l e s m args below meth c 1 0 (some (.int r9)) M 7 P 0 16 [(0, .ref (pB P + x0)), (1, .int x1), (2, .ref (pB P + x2)), (3, .int x3), (4, .int x4), (5, .int x5)] [] M) : ∀ (n : Nat) (M : Mm) (x0 : Nat) (x1 : Int32) (x2 : Nat) (x3 : Int32) (x4 : Int32) (x5 : Int32) (x6 : Int32) , LX1_nearTwo_45 N K16 n M x0 x1 x2 x3 x4 x5 x6 = some r9 → Wq p l e s m args below meth c 1 0 (some (.int r9)) M 7 P 0 45 [(0, .ref (pB P + x0)), (1, .int x1), (2, .ref (pB P + x2)), (3, .int x3), (4, .int x4), (5, .int x5), (6, .int x6)] [] M := by
  intro n
  induction n with
  | zero => intro M x0 x1 x2 x3 x4 x5 x6 h; cases h
  | succ n ih => intro M x0 x1 x2 x3 x4 x5 x6 h; exact wBX1_nearTwo_45 hX hK16 ih M x0 x1 x2 x3 x4 x5 x6 h
set_option maxHeartbeats 4000000 in
set_option maxRecDepth 100000 in
theorem wBX1_nearTwo_16 {p : Program} {l : Launch} {e : Env} {s : State} {m : MethodId} {args : Array Value} {below : List Frame} {meth : Method} {c : Code} {P : PT} {N : Nat} {K16 : Mm → Nat → Int32 → Nat → Int32 → Int32 → Int32 → Option (Int32)}  {r9 : Int32} (hX : Cy p s m args c meth cX1_nearTwo 7 RX1 "nearTwo" (some .int) P)  (hK16 : ∀ (M : Mm) (x0 : Nat) (x1 : Int32) (x2 : Nat) (x3 : Int32) (x4 : Int32) (x5 : Int32), K16 M x0 x1 x2 x3 x4 x5 = some r9 → Wq p l e s m args below meth c 1 0 (some (.int r9)) M 7 P 0 16 [(0, .ref (pB P + x0)), (1, .int x1), (2, .ref (pB P + x2)), (3, .int x3), (4, .int x4), (5, .int x5)] [] M) (M : Mm) (x0 : Nat) (x1 : Int32) (x2 : Nat) (x3 : Int32) (x4 : Int32) (x5 : Int32)  (h : BX1_nearTwo_16 N K16 M x0 x1 x2 x3 x4 x5 = some r9) : Wq p l e s m args below meth c 1 0 (some (.int r9)) M 7 P 0 16 [(0, .ref (pB P + x0)), (1, .int x1), (2, .ref (pB P + x2)), (3, .int x3), (4, .int x4), (5, .int x5)] [] M := by
  unfold BX1_nearTwo_16 at h
  have hX0 := hX
  obtain ⟨X, hr, hlk, hnm⟩ := hX0
  have hx := X.1.1
  have hb := X.1.2.1
  intro H locs ls hM hl
  refine lv_iload (pc := 16) hx hb dX1_nearTwo_16 (lv_at hl 5 rfl) ?_
  refine lv_aload_n (pc := 18) hx hb dX1_nearTwo_18 rfl (lv_at hl 0 rfl) ?_
  obtain ⟨q1, e2, h⟩ := ob h
  refine bz_getQ (pc := 19) X hM fl_RX1_18 e2 dX1_nearTwo_19 ?_
  obtain ⟨q3, e4, h⟩ := ob h
  refine bz_getQ (pc := 22) X hM fl_RX1_40 e4 dX1_nearTwo_22 ?_
  obtain ⟨v6, e5, h⟩ := ob h
  obtain ⟨fs7, hb8⟩ := (rX3_size e5)
  refine bz_callV1 (pc := 25) (As := []) (rest := [.int x5]) X hM hl.1 k_RX1_46 (ctX3_size l e5) rfl hb8 rfl rfl ⟨(Nat.le_of_ble_eq_true rfl), (Nat.le_of_ble_eq_true rfl)⟩ (Nat.le_of_ble_eq_true rfl) ⟨(Nat.le_of_ble_eq_true rfl), (Nat.le_of_ble_eq_true rfl)⟩ dX1_nearTwo_25 (fun H locs hM => ?_)
  refine lv_icmp_ge (pc := 28) (tgt := 108) hx hb dX1_nearTwo_28 (by decide) (fun hc => ?_) (fun hc => ?_)
  · have h := if_t hc h
    refine lv_iload_n (pc := 108) hx hb dX1_nearTwo_108 rfl (lv_at hl 3 rfl) ?_
    obtain rfl := so1 h
    exact bz_iret (pc := 109) X hM hr hlk dX1_nearTwo_109 (Nat.le_of_ble_eq_true rfl) (Nat.le_of_ble_eq_true rfl)
  · have h := if_f hc h
    refine lv_aload_n (pc := 31) hx hb dX1_nearTwo_31 rfl (lv_at hl 0 rfl) ?_
    obtain ⟨q9, e10, h⟩ := ob h
    refine bz_getQ (pc := 32) X hM fl_RX1_18 e10 dX1_nearTwo_32 ?_
    obtain ⟨q11, e12, h⟩ := ob h
    refine bz_getQ (pc := 35) X hM fl_RX1_40 e12 dX1_nearTwo_35 ?_
    refine lv_iload (pc := 38) hx hb dX1_nearTwo_38 (lv_at hl 5 rfl) ?_
    obtain ⟨v14, e13, h⟩ := ob h
    obtain ⟨fs15, hb16⟩ := (rX3_at e13)
    refine bz_callV1 (pc := 40) (As := [.int x5]) (rest := []) X hM hl.1 k_RX1_50 (ctX3_at l e13) rfl hb16 rfl rfl ⟨(Nat.le_of_ble_eq_true rfl), (Nat.le_of_ble_eq_true rfl)⟩ (Nat.le_of_ble_eq_true rfl) ⟨(Nat.le_of_ble_eq_true rfl), (Nat.le_of_ble_eq_true rfl)⟩ dX1_nearTwo_40 (fun H locs hM => ?_)
    refine lv_istore (pc := 43) (lv' := [(6, .int v14), (0, .ref (pB P + x0)), (1, .int x1), (2, .ref (pB P + x2)), (3, .int x3), (4, .int x4), (5, .int x5)]) hx hb dX1_nearTwo_43 hl (by decide) rfl (fun ls hl => ?_)
    exact wLX1_nearTwo_45 hX hK16 _ _ _ _ _ _ _ _ _ h H locs ls hM (lv_sub hl [1, 2, 3, 4, 5, 6, 0] rfl)
set_option maxHeartbeats 4000000 in
set_option maxRecDepth 100000 in
theorem wLX1_nearTwo_16 {p : Program} {l : Launch} {e : Env} {s : State} {m : MethodId} {args : Array Value} {below : List Frame} {meth : Method} {c : Code} {P : PT} {N : Nat}  {r9 : Int32} (hX : Cy p s m args c meth cX1_nearTwo 7 RX1 "nearTwo" (some .int) P)   : ∀ (n : Nat) (M : Mm) (x0 : Nat) (x1 : Int32) (x2 : Nat) (x3 : Int32) (x4 : Int32) (x5 : Int32) , LX1_nearTwo_16 N n M x0 x1 x2 x3 x4 x5 = some r9 → Wq p l e s m args below meth c 1 0 (some (.int r9)) M 7 P 0 16 [(0, .ref (pB P + x0)), (1, .int x1), (2, .ref (pB P + x2)), (3, .int x3), (4, .int x4), (5, .int x5)] [] M := by
  intro n
  induction n with
  | zero => intro M x0 x1 x2 x3 x4 x5 h; cases h
  | succ n ih => intro M x0 x1 x2 x3 x4 x5 h; exact wBX1_nearTwo_16 hX ih M x0 x1 x2 x3 x4 x5 h
set_option maxHeartbeats 4000000 in
set_option maxRecDepth 100000 in
theorem wX1_nearTwo {p : Program} {l : Launch} {e : Env} {s : State} {m : MethodId} {args : Array Value} {below : List Frame} {meth : Method} {c : Code} {P : PT} {N : Nat}  {r9 : Int32} (hX : Cy p s m args c meth cX1_nearTwo 7 RX1 "nearTwo" (some .int) P)  (M : Mm) (a0 : Nat) (a1 : Int32) (h : fX1_nearTwo N M a0 a1 = some r9) : Wq p l e s m args below meth c 1 0 (some (.int r9)) M 7 P 0 0 [(0, .ref (pB P + a0)), (1, .int a1)] [] M := by
  unfold fX1_nearTwo at h
  obtain ⟨_, _, h⟩ := ob h
  have hX0 := hX
  obtain ⟨X, hr, hlk, hnm⟩ := hX0
  have hx := X.1.1
  have hb := X.1.2.1
  intro H locs ls hM hl
  refine lv_aload_n (pc := 0) hx hb dX1_nearTwo_0 rfl (lv_at hl 0 rfl) ?_
  obtain ⟨q1, e2, h⟩ := ob h
  refine bz_getQ (pc := 1) X hM fl_RX1_12 e2 dX1_nearTwo_1 ?_
  obtain ⟨q3, e4, h⟩ := ob h
  refine bz_getQ (pc := 4) X hM fl_RX1_40 e4 dX1_nearTwo_4 ?_
  refine lv_astore_n (pc := 7) (lv' := [(2, .ref (pB P + q3)), (0, .ref (pB P + a0)), (1, .int a1)]) hx hb dX1_nearTwo_7 rfl hl (by decide) rfl (fun ls hl => ?_)
  refine lv_iconst (pc := 8) (v := (0 : Int32)) hx hb dX1_nearTwo_8 (by decide) ?_
  refine lv_istore_n (pc := 9) (lv' := [(3, .int (0 : Int32)), (2, .ref (pB P + q3)), (0, .ref (pB P + a0)), (1, .int a1)]) hx hb dX1_nearTwo_9 rfl hl (by decide) rfl (fun ls hl => ?_)
  refine lv_iconst (pc := 10) (v := (0 : Int32)) hx hb dX1_nearTwo_10 (by decide) ?_
  refine lv_istore (pc := 11) (lv' := [(4, .int (0 : Int32)), (3, .int (0 : Int32)), (2, .ref (pB P + q3)), (0, .ref (pB P + a0)), (1, .int a1)]) hx hb dX1_nearTwo_11 hl (by decide) rfl (fun ls hl => ?_)
  refine lv_iconst (pc := 13) (v := (0 : Int32)) hx hb dX1_nearTwo_13 (by decide) ?_
  refine lv_istore (pc := 14) (lv' := [(5, .int (0 : Int32)), (4, .int (0 : Int32)), (3, .int (0 : Int32)), (2, .ref (pB P + q3)), (0, .ref (pB P + a0)), (1, .int a1)]) hx hb dX1_nearTwo_14 hl (by decide) rfl (fun ls hl => ?_)
  exact wLX1_nearTwo_16 hX _ _ _ _ _ _ _ _ h H locs ls hM (lv_sub hl [4, 5, 3, 2, 1, 0] rfl)
theorem rX1_nearTwo {N : Nat} {M : Mm} {a0 : Nat} {a1 : Int32} {r9 : Int32} (h : fX1_nearTwo N M a0 a1 = some r9) : ∃ fs, M[a0]? = some (.inr (1, fs)) := by
  unfold fX1_nearTwo at h
  obtain ⟨_, e1, _⟩ := ob h
  exact gC_spec e1
theorem ctX1_nearTwo (l : Launch) {P : PT} {N : Nat} {M : Mm} {a0 : Nat} {a1 : Int32} {r9 : Int32} (h : fX1_nearTwo N M a0 a1 = some r9) : Ct l yX1_nearTwo cX1_nearTwo 7 (some .int) 1 0 P [.ref (pB P + a0), .int a1] M (some (.int r9)) M :=
  Ct.mk (by decide +kernel) (Nat.le_of_ble_eq_true rfl) (fun p e s m args below meth c hX => wX1_nearTwo hX M a0 a1 h)
set_option maxHeartbeats 4000000 in
set_option maxRecDepth 100000 in
theorem wX1_given {p : Program} {l : Launch} {e : Env} {s : State} {m : MethodId} {args : Array Value} {below : List Frame} {meth : Method} {c : Code} {P : PT} {N : Nat}  {r9 : Int32} {M9 : Mm} (hX : Cy p s m args c meth cX1_given 4 RX1 "given" (some .int) P)  (M : Mm) (a0 : Nat) (a1 : Nat) (a2 : Int32) (h : fX1_given N M a0 a1 a2 = some (r9, M9)) : Wq p l e s m args below meth c 5 0 (some (.int r9)) M9 4 P 0 0 [(0, .ref (pB P + a0)), (1, .ref (pB P + a1)), (2, .int a2)] [] M := by
  unfold fX1_given at h
  obtain ⟨_, _, h⟩ := ob h
  have hX0 := hX
  obtain ⟨X, hr, hlk, hnm⟩ := hX0
  have hx := X.1.1
  have hb := X.1.2.1
  intro H locs ls hM hl
  refine lv_aload_n (pc := 0) hx hb dX1_given_0 rfl (lv_at hl 0 rfl) ?_
  refine lv_aload_n (pc := 1) hx hb dX1_given_1 rfl (lv_at hl 1 rfl) ?_
  obtain ⟨v1, e2, h⟩ := ob h
  refine bz_getI (pc := 2) X hM fl_RX1_61 e2 dX1_given_2 ?_
  obtain ⟨M4, e3, h⟩ := ob h
  obtain ⟨fs5, hb6⟩ := (rX1_drawLine e3)
  refine bz_callV0 (pc := 5) (As := [.int v1]) (rest := []) X hM hl.1 k_RX1_67 (ctX1_drawLine l e3) rfl hb6 rfl rfl ⟨(Nat.le_of_ble_eq_true rfl), (Nat.le_of_ble_eq_true rfl)⟩ (Nat.le_of_ble_eq_true rfl) ⟨(Nat.le_of_ble_eq_true rfl), (Nat.le_of_ble_eq_true rfl)⟩ dX1_given_5 (fun H locs hM => ?_)
  refine lv_aload_n (pc := 8) hx hb dX1_given_8 rfl (lv_at hl 1 rfl) ?_
  obtain ⟨v7, e8, h⟩ := ob h
  refine bz_getI (pc := 9) X hM fl_RX1_70 e8 dX1_given_9 ?_
  refine lv_istore_n (pc := 12) (lv' := [(3, .int v7), (0, .ref (pB P + a0)), (1, .ref (pB P + a1)), (2, .int a2)]) hx hb dX1_given_12 rfl hl (by decide) rfl (fun ls hl => ?_)
  refine lv_aload_n (pc := 13) hx hb dX1_given_13 rfl (lv_at hl 2 rfl) ?_
  obtain ⟨v9, e10, h⟩ := ob h
  refine bz_getI (pc := 14) X hM fl_RX1_73 e10 dX1_given_14 ?_
  by_cases hs1 : v9 = (1 : Int32)
  · have h := if_t hs1 h
    refine lv_tableIn (pc := 17) (off := 43) (tgt := 60) hx hb dX1_given_17 (by rw [hs1]; decide) (by rw [hs1]; decide) (by rw [hs1]; rfl) (by decide) ?_
    refine lv_aload_n (pc := 60) hx hb dX1_given_60 rfl (lv_at hl 1 rfl) ?_
    refine lv_aload_n (pc := 61) hx hb dX1_given_61 rfl (lv_at hl 2 rfl) ?_
    obtain ⟨v12, M13, e11, h⟩ := ob2 h
    obtain ⟨fs14, hb15⟩ := (rX1_warm e11)
    refine bz_callV1 (pc := 62) (As := [.ref (pB P + a1)]) (rest := []) X hM hl.1 k_RX1_76 (ctX1_warm l e11) rfl hb15 rfl rfl ⟨(Nat.le_of_ble_eq_true rfl), (Nat.le_of_ble_eq_true rfl)⟩ (Nat.le_of_ble_eq_true rfl) ⟨(Nat.le_of_ble_eq_true rfl), (Nat.le_of_ble_eq_true rfl)⟩ dX1_given_62 (fun H locs hM => ?_)
    obtain ⟨rfl, rfl⟩ := so2 h
    exact bz_iret (pc := 65) X hM hr hlk dX1_given_65 (Nat.le_of_ble_eq_true rfl) (Nat.le_of_ble_eq_true rfl)
  have h := if_f hs1 h
  by_cases hs2 : v9 = (2 : Int32)
  · have h := if_t hs2 h
    refine lv_tableIn (pc := 17) (off := 49) (tgt := 66) hx hb dX1_given_17 (by rw [hs2]; decide) (by rw [hs2]; decide) (by rw [hs2]; rfl) (by decide) ?_
    refine lv_iconst (pc := 66) (v := (0 : Int32)) hx hb dX1_given_66 (by decide) ?_
    refine lv_aload_n (pc := 67) hx hb dX1_given_67 rfl (lv_at hl 1 rfl) ?_
    refine lv_iload_n (pc := 68) hx hb dX1_given_68 rfl (lv_at hl 0 rfl) ?_
    refine lv_iconst (pc := 69) (v := (0 : Int32)) hx hb dX1_given_69 (by decide) ?_
    obtain ⟨v17, M18, e16, h⟩ := ob2 h
    obtain ⟨fs19, hb20⟩ := (rX1_meeting e16)
    refine bz_callV1 (pc := 70) (As := [.int v7, .int (0 : Int32)]) (rest := [.int (0 : Int32)]) X hM hl.1 k_RX1_80 (ctX1_meeting l e16) rfl hb20 rfl rfl ⟨(Nat.le_of_ble_eq_true rfl), (Nat.le_of_ble_eq_true rfl)⟩ (Nat.le_of_ble_eq_true rfl) ⟨(Nat.le_of_ble_eq_true rfl), (Nat.le_of_ble_eq_true rfl)⟩ dX1_given_70 (fun H locs hM => ?_)
    refine lv_aload_n (pc := 73) hx hb dX1_given_73 rfl (lv_at hl 1 rfl) ?_
    refine lv_aload_n (pc := 74) hx hb dX1_given_74 rfl (lv_at hl 2 rfl) ?_
    obtain ⟨v22, M23, e21, h⟩ := ob2 h
    obtain ⟨fs24, hb25⟩ := (rX1_warm e21)
    refine bz_callV1 (pc := 75) (As := [.ref (pB P + a1)]) (rest := [.int v17, .int (0 : Int32)]) X hM hl.1 k_RX1_76 (ctX1_warm l e21) rfl hb25 rfl rfl ⟨(Nat.le_of_ble_eq_true rfl), (Nat.le_of_ble_eq_true rfl)⟩ (Nat.le_of_ble_eq_true rfl) ⟨(Nat.le_of_ble_eq_true rfl), (Nat.le_of_ble_eq_true rfl)⟩ dX1_given_75 (fun H locs hM => ?_)
    refine lv_isub (pc := 78) hx hb dX1_given_78 ?_
    obtain ⟨v27, e26, h⟩ := ob h
    refine bz_callS1 (pc := 79) (As := [.int (0 : Int32), .int (v17 - v22)]) (rest := []) X hM hl.1 k_RX1_84 (ctJ9_max_7cf53 l e26) rfl rfl ⟨(Nat.le_of_ble_eq_true rfl), (Nat.le_of_ble_eq_true rfl)⟩ (Nat.le_of_ble_eq_true rfl) ⟨(Nat.le_of_ble_eq_true rfl), (Nat.le_of_ble_eq_true rfl)⟩ dX1_given_79 (fun H locs hM => ?_)
    obtain ⟨rfl, rfl⟩ := so2 h
    exact bz_iret (pc := 82) X hM hr hlk dX1_given_82 (Nat.le_of_ble_eq_true rfl) (Nat.le_of_ble_eq_true rfl)
  have h := if_f hs2 h
  by_cases hs3 : v9 = (3 : Int32)
  · have h := if_t hs3 h
    refine lv_tableIn (pc := 17) (off := 66) (tgt := 83) hx hb dX1_given_17 (by rw [hs3]; decide) (by rw [hs3]; decide) (by rw [hs3]; rfl) (by decide) ?_
    refine lv_aload_n (pc := 83) hx hb dX1_given_83 rfl (lv_at hl 1 rfl) ?_
    obtain ⟨q28, e29, h⟩ := ob h
    refine bz_getQ (pc := 84) X hM fl_RX1_12 e29 dX1_given_84 ?_
    obtain ⟨q30, e31, h⟩ := ob h
    refine bz_getQ (pc := 87) X hM fl_RX1_54 e31 dX1_given_87 ?_
    obtain ⟨v33, e32, h⟩ := ob h
    obtain ⟨fs34, hb35⟩ := (rX3_size e32)
    refine bz_callV1 (pc := 90) (As := []) (rest := []) X hM hl.1 k_RX1_46 (ctX3_size l e32) rfl hb35 rfl rfl ⟨(Nat.le_of_ble_eq_true rfl), (Nat.le_of_ble_eq_true rfl)⟩ (Nat.le_of_ble_eq_true rfl) ⟨(Nat.le_of_ble_eq_true rfl), (Nat.le_of_ble_eq_true rfl)⟩ dX1_given_90 (fun H locs hM => ?_)
    refine lv_aload_n (pc := 93) hx hb dX1_given_93 rfl (lv_at hl 1 rfl) ?_
    refine lv_iload_n (pc := 94) hx hb dX1_given_94 rfl (lv_at hl 0 rfl) ?_
    refine lv_iconst (pc := 95) (v := (0 : Int32)) hx hb dX1_given_95 (by decide) ?_
    obtain ⟨v37, M38, e36, h⟩ := ob2 h
    obtain ⟨fs39, hb40⟩ := (rX1_meeting e36)
    refine bz_callV1 (pc := 96) (As := [.int v7, .int (0 : Int32)]) (rest := [.int v33]) X hM hl.1 k_RX1_80 (ctX1_meeting l e36) rfl hb40 rfl rfl ⟨(Nat.le_of_ble_eq_true rfl), (Nat.le_of_ble_eq_true rfl)⟩ (Nat.le_of_ble_eq_true rfl) ⟨(Nat.le_of_ble_eq_true rfl), (Nat.le_of_ble_eq_true rfl)⟩ dX1_given_96 (fun H locs hM => ?_)
    refine lv_isub (pc := 99) hx hb dX1_given_99 ?_
    obtain ⟨rfl, rfl⟩ := so2 h
    exact bz_iret (pc := 100) X hM hr hlk dX1_given_100 (Nat.le_of_ble_eq_true rfl) (Nat.le_of_ble_eq_true rfl)
  have h := if_f hs3 h
  by_cases hs4 : v9 = (4 : Int32)
  · have h := if_t hs4 h
    refine lv_tableIn (pc := 17) (off := 84) (tgt := 101) hx hb dX1_given_17 (by rw [hs4]; decide) (by rw [hs4]; decide) (by rw [hs4]; rfl) (by decide) ?_
    refine lv_aload_n (pc := 101) hx hb dX1_given_101 rfl (lv_at hl 1 rfl) ?_
    refine lv_aload_n (pc := 102) hx hb dX1_given_102 rfl (lv_at hl 2 rfl) ?_
    obtain ⟨v42, M43, e41, h⟩ := ob2 h
    obtain ⟨fs44, hb45⟩ := (rX1_lined e41)
    refine bz_callV1 (pc := 103) (As := [.ref (pB P + a1)]) (rest := []) X hM hl.1 k_RX1_89 (ctX1_lined l e41) rfl hb45 rfl rfl ⟨(Nat.le_of_ble_eq_true rfl), (Nat.le_of_ble_eq_true rfl)⟩ (Nat.le_of_ble_eq_true rfl) ⟨(Nat.le_of_ble_eq_true rfl), (Nat.le_of_ble_eq_true rfl)⟩ dX1_given_103 (fun H locs hM => ?_)
    obtain ⟨rfl, rfl⟩ := so2 h
    exact bz_iret (pc := 106) X hM hr hlk dX1_given_106 (Nat.le_of_ble_eq_true rfl) (Nat.le_of_ble_eq_true rfl)
  have h := if_f hs4 h
  by_cases hs5 : v9 = (5 : Int32)
  · have h := if_t hs5 h
    refine lv_tableIn (pc := 17) (off := 90) (tgt := 107) hx hb dX1_given_17 (by rw [hs5]; decide) (by rw [hs5]; decide) (by rw [hs5]; rfl) (by decide) ?_
    refine lv_aload_n (pc := 107) hx hb dX1_given_107 rfl (lv_at hl 1 rfl) ?_
    refine lv_iload_n (pc := 108) hx hb dX1_given_108 rfl (lv_at hl 0 rfl) ?_
    refine lv_iconst (pc := 109) (v := (0 : Int32)) hx hb dX1_given_109 (by decide) ?_
    obtain ⟨v47, M48, e46, h⟩ := ob2 h
    obtain ⟨fs49, hb50⟩ := (rX1_meeting e46)
    refine bz_callV1 (pc := 110) (As := [.int v7, .int (0 : Int32)]) (rest := []) X hM hl.1 k_RX1_80 (ctX1_meeting l e46) rfl hb50 rfl rfl ⟨(Nat.le_of_ble_eq_true rfl), (Nat.le_of_ble_eq_true rfl)⟩ (Nat.le_of_ble_eq_true rfl) ⟨(Nat.le_of_ble_eq_true rfl), (Nat.le_of_ble_eq_true rfl)⟩ dX1_given_110 (fun H locs hM => ?_)
    refine lv_aload_n (pc := 113) hx hb dX1_given_113 rfl (lv_at hl 1 rfl) ?_
    refine lv_iload_n (pc := 114) hx hb dX1_given_114 rfl (lv_at hl 0 rfl) ?_
    obtain ⟨v52, e51, h⟩ := ob h
    obtain ⟨fs53, hb54⟩ := (rX1_nearTwo e51)
    refine bz_callV1 (pc := 115) (As := [.int v7]) (rest := [.int v47]) X hM hl.1 k_RX1_92 (ctX1_nearTwo l e51) rfl hb54 rfl rfl ⟨(Nat.le_of_ble_eq_true rfl), (Nat.le_of_ble_eq_true rfl)⟩ (Nat.le_of_ble_eq_true rfl) ⟨(Nat.le_of_ble_eq_true rfl), (Nat.le_of_ble_eq_true rfl)⟩ dX1_given_115 (fun H locs hM => ?_)
    refine lv_iadd (pc := 118) hx hb dX1_given_118 ?_
    obtain ⟨rfl, rfl⟩ := so2 h
    exact bz_iret (pc := 119) X hM hr hlk dX1_given_119 (Nat.le_of_ble_eq_true rfl) (Nat.le_of_ble_eq_true rfl)
  have h := if_f hs5 h
  by_cases hs6 : v9 = (6 : Int32)
  · have h := if_t hs6 h
    refine lv_tableIn (pc := 17) (off := 103) (tgt := 120) hx hb dX1_given_17 (by rw [hs6]; decide) (by rw [hs6]; decide) (by rw [hs6]; rfl) (by decide) ?_
    refine lv_aload_n (pc := 120) hx hb dX1_given_120 rfl (lv_at hl 1 rfl) ?_
    refine lv_iload_n (pc := 121) hx hb dX1_given_121 rfl (lv_at hl 0 rfl) ?_
    refine lv_aload_n (pc := 122) hx hb dX1_given_122 rfl (lv_at hl 2 rfl) ?_
    obtain ⟨v55, e56, h⟩ := ob h
    refine bz_getI (pc := 123) X hM fl_RX1_95 e56 dX1_given_123 ?_
    obtain ⟨v58, M59, e57, h⟩ := ob2 h
    obtain ⟨fs60, hb61⟩ := (rX1_meeting e57)
    refine bz_callV1 (pc := 126) (As := [.int v7, .int v55]) (rest := []) X hM hl.1 k_RX1_80 (ctX1_meeting l e57) rfl hb61 rfl rfl ⟨(Nat.le_of_ble_eq_true rfl), (Nat.le_of_ble_eq_true rfl)⟩ (Nat.le_of_ble_eq_true rfl) ⟨(Nat.le_of_ble_eq_true rfl), (Nat.le_of_ble_eq_true rfl)⟩ dX1_given_126 (fun H locs hM => ?_)
    obtain ⟨rfl, rfl⟩ := so2 h
    exact bz_iret (pc := 129) X hM hr hlk dX1_given_129 (Nat.le_of_ble_eq_true rfl) (Nat.le_of_ble_eq_true rfl)
  have h := if_f hs6 h
  by_cases hs7 : v9 = (7 : Int32)
  · have h := if_t hs7 h
    refine lv_tableIn (pc := 17) (off := 113) (tgt := 130) hx hb dX1_given_17 (by rw [hs7]; decide) (by rw [hs7]; decide) (by rw [hs7]; rfl) (by decide) ?_
    refine lv_aload_n (pc := 130) hx hb dX1_given_130 rfl (lv_at hl 1 rfl) ?_
    refine lv_iload_n (pc := 131) hx hb dX1_given_131 rfl (lv_at hl 0 rfl) ?_
    refine lv_iload_n (pc := 132) hx hb dX1_given_132 rfl (lv_at hl 3 rfl) ?_
    obtain ⟨v63, M64, e62, h⟩ := ob2 h
    obtain ⟨fs65, hb66⟩ := (rX1_meeting e62)
    refine bz_callV1 (pc := 133) (As := [.int v7, .int a2]) (rest := []) X hM hl.1 k_RX1_80 (ctX1_meeting l e62) rfl hb66 rfl rfl ⟨(Nat.le_of_ble_eq_true rfl), (Nat.le_of_ble_eq_true rfl)⟩ (Nat.le_of_ble_eq_true rfl) ⟨(Nat.le_of_ble_eq_true rfl), (Nat.le_of_ble_eq_true rfl)⟩ dX1_given_133 (fun H locs hM => ?_)
    obtain ⟨rfl, rfl⟩ := so2 h
    exact bz_iret (pc := 136) X hM hr hlk dX1_given_136 (Nat.le_of_ble_eq_true rfl) (Nat.le_of_ble_eq_true rfl)
  have h := if_f hs7 h
  have ho : (v9).toInt < 1 ∨ 7 < (v9).toInt := by
    have hs1 := lv_neT hs1 (a := 1) (by decide)
    have hs2 := lv_neT hs2 (a := 2) (by decide)
    have hs3 := lv_neT hs3 (a := 3) (by decide)
    have hs4 := lv_neT hs4 (a := 4) (by decide)
    have hs5 := lv_neT hs5 (a := 5) (by decide)
    have hs6 := lv_neT hs6 (a := 6) (by decide)
    have hs7 := lv_neT hs7 (a := 7) (by decide)
    omega
  refine lv_tableOut (pc := 17) (tgt := 137) hx hb dX1_given_17 ho (by decide) ?_
  refine lv_aload_n (pc := 137) hx hb dX1_given_137 rfl (lv_at hl 1 rfl) ?_
  refine lv_iload_n (pc := 138) hx hb dX1_given_138 rfl (lv_at hl 0 rfl) ?_
  refine lv_iconst (pc := 139) (v := (0 : Int32)) hx hb dX1_given_139 (by decide) ?_
  obtain ⟨v68, M69, e67, h⟩ := ob2 h
  obtain ⟨fs70, hb71⟩ := (rX1_meeting e67)
  refine bz_callV1 (pc := 140) (As := [.int v7, .int (0 : Int32)]) (rest := []) X hM hl.1 k_RX1_80 (ctX1_meeting l e67) rfl hb71 rfl rfl ⟨(Nat.le_of_ble_eq_true rfl), (Nat.le_of_ble_eq_true rfl)⟩ (Nat.le_of_ble_eq_true rfl) ⟨(Nat.le_of_ble_eq_true rfl), (Nat.le_of_ble_eq_true rfl)⟩ dX1_given_140 (fun H locs hM => ?_)
  obtain ⟨rfl, rfl⟩ := so2 h
  exact bz_iret (pc := 143) X hM hr hlk dX1_given_143 (Nat.le_of_ble_eq_true rfl) (Nat.le_of_ble_eq_true rfl)
theorem rX1_given {N : Nat} {M : Mm} {a0 : Nat} {a1 : Nat} {a2 : Int32} {r9 : Int32 × Mm} (h : fX1_given N M a0 a1 a2 = some r9) : ∃ fs, M[a0]? = some (.inr (1, fs)) := by
  unfold fX1_given at h
  obtain ⟨_, e1, _⟩ := ob h
  exact gC_spec e1
theorem ctX1_given (l : Launch) {P : PT} {N : Nat} {M : Mm} {a0 : Nat} {a1 : Nat} {a2 : Int32} {r9 : Int32} {M9 : Mm} (h : fX1_given N M a0 a1 a2 = some (r9, M9)) : Ct l yX1_given cX1_given 4 (some .int) 5 0 P [.ref (pB P + a0), .ref (pB P + a1), .int a2] M (some (.int r9)) M9 :=
  Ct.mk (by decide +kernel) (Nat.le_of_ble_eq_true rfl) (fun p e s m args below meth c hX => wX1_given hX M a0 a1 a2 h)
set_option maxHeartbeats 4000000 in
set_option maxRecDepth 100000 in
theorem wX10_gives {p : Program} {l : Launch} {e : Env} {s : State} {m : MethodId} {args : Array Value} {below : List Frame} {meth : Method} {c : Code} {P : PT} {N : Nat}  {r9 : Int32} {M9 : Mm} (hX : Cy p s m args c meth cX10_gives 3 RX10 "gives" (some .int) P)  (M : Mm) (a0 : Nat) (a1 : Int32) (h : fX10_gives N M a0 a1 = some (r9, M9)) : Wq p l e s m args below meth c 6 0 (some (.int r9)) M9 3 P 0 0 [(0, .ref (pB P + a0)), (1, .int a1)] [] M := by
  unfold fX10_gives at h
  obtain ⟨_, _, h⟩ := ob h
  have hX0 := hX
  obtain ⟨X, hr, hlk, hnm⟩ := hX0
  have hx := X.1.1
  have hb := X.1.2.1
  intro H locs ls hM hl
  refine lv_aload_n (pc := 0) hx hb dX10_gives_0 rfl (lv_at hl 0 rfl) ?_
  obtain ⟨q1, e2, h⟩ := ob h
  refine bz_getQ (pc := 1) X hM fl_RX10_10 e2 dX10_gives_1 ?_
  refine lv_iload_n (pc := 4) hx hb dX10_gives_4 rfl (lv_at hl 1 rfl) ?_
  obtain ⟨r4, e3, h⟩ := ob h
  obtain ⟨fs5, hb6⟩ := (rX6_countingAt e3)
  refine bz_callV1 (pc := 5) (As := [.int a1]) (rest := []) X hM hl.1 k_RX10_239 (ctX6_countingAt l e3) rfl hb6 rfl rfl ⟨(Nat.le_of_ble_eq_true rfl), (Nat.le_of_ble_eq_true rfl)⟩ (Nat.le_of_ble_eq_true rfl) ⟨(Nat.le_of_ble_eq_true rfl), (Nat.le_of_ble_eq_true rfl)⟩ dX10_gives_5 (fun H locs hM => ?_)
  refine bz_astore_nO (pc := 8) (lv' := [(2, rO P r4), (0, .ref (pB P + a0)), (1, .int a1)]) hx hb dX10_gives_8 rfl hl (by decide) rfl (fun ls hl => ?_)
  refine bz_aload_nO (pc := 9) hx hb dX10_gives_9 rfl (lv_at hl 0 rfl) ?_
  refine bz_ifnonnullO (pc := 10) (tgt := 19) hx hb dX10_gives_10 (by decide) (fun q7 hc => ?_) (fun hc => ?_)
  · subst hc
    have h := om_s rfl h
    have hl : lv_has ls 3 [(2, .ref (pB P + q7)), (0, .ref (pB P + a0)), (1, .int a1)] := hl
    refine lv_aload_n (pc := 19) hx hb dX10_gives_19 rfl (lv_at hl 1 rfl) ?_
    obtain ⟨q13, e14, h⟩ := ob h
    refine bz_getQ (pc := 20) X hM fl_RX10_42 e14 dX10_gives_20 ?_
    refine lv_aload_n (pc := 23) hx hb dX10_gives_23 rfl (lv_at hl 1 rfl) ?_
    obtain ⟨q15, e16, h⟩ := ob h
    refine bz_getQ (pc := 24) X hM fl_RX10_10 e16 dX10_gives_24 ?_
    refine lv_aload_n (pc := 27) hx hb dX10_gives_27 rfl (lv_at hl 0 rfl) ?_
    obtain ⟨v17, e18, h⟩ := ob h
    refine bz_getI (pc := 28) X hM fl_RX10_250 e18 dX10_gives_28 ?_
    obtain ⟨M20, e19, h⟩ := ob h
    obtain ⟨fs21, hb22⟩ := (rX1_hear e19)
    refine bz_callV0 (pc := 31) (As := [.ref (pB P + q15), .int v17]) (rest := []) X hM hl.1 k_RX10_217 (ctX1_hear l e19) rfl hb22 rfl rfl ⟨(Nat.le_of_ble_eq_true rfl), (Nat.le_of_ble_eq_true rfl)⟩ (Nat.le_of_ble_eq_true rfl) ⟨(Nat.le_of_ble_eq_true rfl), (Nat.le_of_ble_eq_true rfl)⟩ dX10_gives_31 (fun H locs hM => ?_)
    refine lv_aload_n (pc := 34) hx hb dX10_gives_34 rfl (lv_at hl 1 rfl) ?_
    obtain ⟨q23, e24, h⟩ := ob h
    refine bz_getQ (pc := 35) X hM fl_RX10_42 e24 dX10_gives_35 ?_
    refine lv_aload_n (pc := 38) hx hb dX10_gives_38 rfl (lv_at hl 0 rfl) ?_
    refine lv_aload_n (pc := 39) hx hb dX10_gives_39 rfl (lv_at hl 1 rfl) ?_
    obtain ⟨q25, e26, h⟩ := ob h
    refine bz_getQ (pc := 40) X hM fl_RX10_10 e26 dX10_gives_40 ?_
    refine lv_aload_n (pc := 43) hx hb dX10_gives_43 rfl (lv_at hl 0 rfl) ?_
    obtain ⟨v27, e28, h⟩ := ob h
    refine bz_getI (pc := 44) X hM fl_RX10_250 e28 dX10_gives_44 ?_
    refine lv_bipush (pc := 47) (v := (10 : Int32)) hx hb dX10_gives_47 (by decide) ?_
    refine lv_idiv (pc := 49) hx hb dX10_gives_49 (by decide) ?_
    obtain ⟨v30, e29, h⟩ := ob h
    obtain ⟨fs31, hb32⟩ := (rX6_clockOf e29)
    refine bz_callV1 (pc := 50) (As := [.int (v27 / (10 : Int32))]) (rest := [.ref (pB P + q7), .ref (pB P + q23)]) X hM hl.1 k_RX10_253 (ctX6_clockOf l e29) rfl hb32 rfl rfl ⟨(Nat.le_of_ble_eq_true rfl), (Nat.le_of_ble_eq_true rfl)⟩ (Nat.le_of_ble_eq_true rfl) ⟨(Nat.le_of_ble_eq_true rfl), (Nat.le_of_ble_eq_true rfl)⟩ dX10_gives_50 (fun H locs hM => ?_)
    refine lv_aload_n (pc := 53) hx hb dX10_gives_53 rfl (lv_at hl 1 rfl) ?_
    obtain ⟨q33, e34, h⟩ := ob h
    refine bz_getQ (pc := 54) X hM fl_RX10_10 e34 dX10_gives_54 ?_
    refine lv_aload_n (pc := 57) hx hb dX10_gives_57 rfl (lv_at hl 0 rfl) ?_
    obtain ⟨v35, e36, h⟩ := ob h
    refine bz_getI (pc := 58) X hM fl_RX10_250 e36 dX10_gives_58 ?_
    refine lv_bipush (pc := 61) (v := (10 : Int32)) hx hb dX10_gives_61 (by decide) ?_
    refine bz_irem (pc := 63) hx hb dX10_gives_63 (by decide) ?_
    obtain ⟨v38, e37, h⟩ := ob h
    obtain ⟨fs39, hb40⟩ := (rX6_clockOf e37)
    refine bz_callV1 (pc := 64) (As := [.int (rmI v35 ((10 : Int32)))]) (rest := [.int v30, .ref (pB P + q7), .ref (pB P + q23)]) X hM hl.1 k_RX10_253 (ctX6_clockOf l e37) rfl hb40 rfl rfl ⟨(Nat.le_of_ble_eq_true rfl), (Nat.le_of_ble_eq_true rfl)⟩ (Nat.le_of_ble_eq_true rfl) ⟨(Nat.le_of_ble_eq_true rfl), (Nat.le_of_ble_eq_true rfl)⟩ dX10_gives_64 (fun H locs hM => ?_)
    refine lv_isub (pc := 67) hx hb dX10_gives_67 ?_
    obtain ⟨v42, M43, e41, h⟩ := ob2 h
    obtain ⟨fs44, hb45⟩ := (rX1_given e41)
    refine bz_callV1 (pc := 68) (As := [.ref (pB P + q7), .int (v30 - v38)]) (rest := []) X hM hl.1 k_RX10_256 (ctX1_given l e41) rfl hb45 rfl rfl ⟨(Nat.le_of_ble_eq_true rfl), (Nat.le_of_ble_eq_true rfl)⟩ (Nat.le_of_ble_eq_true rfl) ⟨(Nat.le_of_ble_eq_true rfl), (Nat.le_of_ble_eq_true rfl)⟩ dX10_gives_68 (fun H locs hM => ?_)
    obtain ⟨rfl, rfl⟩ := so2 h
    exact bz_iret (pc := 71) X hM hr hlk dX10_gives_71 (Nat.le_of_ble_eq_true rfl) (Nat.le_of_ble_eq_true rfl)
  · subst hc
    have h := om_n rfl h
    have hl : lv_has ls 3 [(2, .null), (0, .ref (pB P + a0)), (1, .int a1)] := hl
    refine lv_aload_n (pc := 13) hx hb dX10_gives_13 rfl (lv_at hl 1 rfl) ?_
    refine lv_iconst (pc := 14) (v := (1 : Int32)) hx hb dX10_gives_14 (by decide) ?_
    obtain ⟨v9, M10, e8, h⟩ := ob2 h
    obtain ⟨fs11, hb12⟩ := (rX10_error e8)
    refine bz_callV1 (pc := 15) (As := [.int (1 : Int32)]) (rest := []) X hM hl.1 k_RX10_78 (ctX10_error l e8) rfl hb12 rfl rfl ⟨(Nat.le_of_ble_eq_true rfl), (Nat.le_of_ble_eq_true rfl)⟩ (Nat.le_of_ble_eq_true rfl) ⟨(Nat.le_of_ble_eq_true rfl), (Nat.le_of_ble_eq_true rfl)⟩ dX10_gives_15 (fun H locs hM => ?_)
    obtain ⟨rfl, rfl⟩ := so2 h
    exact bz_iret (pc := 18) X hM hr hlk dX10_gives_18 (Nat.le_of_ble_eq_true rfl) (Nat.le_of_ble_eq_true rfl)
theorem rX10_gives {N : Nat} {M : Mm} {a0 : Nat} {a1 : Int32} {r9 : Int32 × Mm} (h : fX10_gives N M a0 a1 = some r9) : ∃ fs, M[a0]? = some (.inr (10, fs)) := by
  unfold fX10_gives at h
  obtain ⟨_, e1, _⟩ := ob h
  exact gC_spec e1
theorem ctX10_gives (l : Launch) {P : PT} {N : Nat} {M : Mm} {a0 : Nat} {a1 : Int32} {r9 : Int32} {M9 : Mm} (h : fX10_gives N M a0 a1 = some (r9, M9)) : Ct l yX10_gives cX10_gives 3 (some .int) 6 0 P [.ref (pB P + a0), .int a1] M (some (.int r9)) M9 :=
  Ct.mk (by decide +kernel) (Nat.le_of_ble_eq_true rfl) (fun p e s m args below meth c hX => wX10_gives hX M a0 a1 h)
set_option maxHeartbeats 4000000 in
set_option maxRecDepth 100000 in
theorem wX11_slid {p : Program} {l : Launch} {e : Env} {s : State} {m : MethodId} {args : Array Value} {below : List Frame} {meth : Method} {c : Code} {P : PT} {N : Nat}  {r9 : Int32} (hX : Cy p s m args c meth cX11_slid 4 RX11 "slid" (some .int) P)  (M : Mm) (a0 : Nat) (a1 : Int32) (a2 : Int32) (a3 : Int32) (h : fX11_slid N M a0 a1 a2 a3 = some r9) : Wq p l e s m args below meth c 4 0 (some (.int r9)) M 4 P 0 0 [(0, .ref (pB P + a0)), (1, .int a1), (2, .int a2), (3, .int a3)] [] M := by
  unfold fX11_slid at h
  obtain ⟨_, _, h⟩ := ob h
  have hX0 := hX
  obtain ⟨X, hr, hlk, hnm⟩ := hX0
  have hx := X.1.1
  have hb := X.1.2.1
  intro H locs ls hM hl
  refine lv_aload_n (pc := 0) hx hb dX11_slid_0 rfl (lv_at hl 0 rfl) ?_
  refine lv_aload_n (pc := 1) hx hb dX11_slid_1 rfl (lv_at hl 0 rfl) ?_
  refine lv_iload_n (pc := 2) hx hb dX11_slid_2 rfl (lv_at hl 1 rfl) ?_
  refine lv_iconst (pc := 3) (v := (1 : Int32)) hx hb dX11_slid_3 (by decide) ?_
  obtain ⟨v2, e1, h⟩ := ob h
  obtain ⟨fs3, hb4⟩ := (rX11_of e1)
  refine bz_callV1 (pc := 4) (As := [.int a1, .int (1 : Int32)]) (rest := [.ref (pB P + a0)]) X hM hl.1 k_RX11_222 (ctX11_of l e1) rfl hb4 rfl rfl ⟨(Nat.le_of_ble_eq_true rfl), (Nat.le_of_ble_eq_true rfl)⟩ (Nat.le_of_ble_eq_true rfl) ⟨(Nat.le_of_ble_eq_true rfl), (Nat.le_of_ble_eq_true rfl)⟩ dX11_slid_4 (fun H locs hM => ?_)
  refine lv_iload_n (pc := 7) hx hb dX11_slid_7 rfl (lv_at hl 2 rfl) ?_
  refine lv_aload_n (pc := 8) hx hb dX11_slid_8 rfl (lv_at hl 0 rfl) ?_
  refine lv_iload_n (pc := 9) hx hb dX11_slid_9 rfl (lv_at hl 1 rfl) ?_
  refine lv_iconst (pc := 10) (v := (3 : Int32)) hx hb dX11_slid_10 (by decide) ?_
  obtain ⟨v6, e5, h⟩ := ob h
  obtain ⟨fs7, hb8⟩ := (rX11_of e5)
  refine bz_callV1 (pc := 11) (As := [.int a1, .int (3 : Int32)]) (rest := [.int a2, .int v2, .ref (pB P + a0)]) X hM hl.1 k_RX11_222 (ctX11_of l e5) rfl hb8 rfl rfl ⟨(Nat.le_of_ble_eq_true rfl), (Nat.le_of_ble_eq_true rfl)⟩ (Nat.le_of_ble_eq_true rfl) ⟨(Nat.le_of_ble_eq_true rfl), (Nat.le_of_ble_eq_true rfl)⟩ dX11_slid_11 (fun H locs hM => ?_)
  refine lv_iload_n (pc := 14) hx hb dX11_slid_14 rfl (lv_at hl 3 rfl) ?_
  obtain ⟨v10, e9, h⟩ := ob h
  obtain ⟨fs11, hb12⟩ := (rX11_met e9)
  refine bz_callV1 (pc := 15) (As := [.int v2, .int a2, .int v6, .int a3]) (rest := []) X hM hl.1 k_RX11_139 (ctX11_met l e9) rfl hb12 rfl rfl ⟨(Nat.le_of_ble_eq_true rfl), (Nat.le_of_ble_eq_true rfl)⟩ (Nat.le_of_ble_eq_true rfl) ⟨(Nat.le_of_ble_eq_true rfl), (Nat.le_of_ble_eq_true rfl)⟩ dX11_slid_15 (fun H locs hM => ?_)
  obtain rfl := so1 h
  exact bz_iret (pc := 18) X hM hr hlk dX11_slid_18 (Nat.le_of_ble_eq_true rfl) (Nat.le_of_ble_eq_true rfl)
theorem rX11_slid {N : Nat} {M : Mm} {a0 : Nat} {a1 : Int32} {a2 : Int32} {a3 : Int32} {r9 : Int32} (h : fX11_slid N M a0 a1 a2 a3 = some r9) : ∃ fs, M[a0]? = some (.inr (11, fs)) := by
  unfold fX11_slid at h
  obtain ⟨_, e1, _⟩ := ob h
  exact gC_spec e1
theorem ctX11_slid (l : Launch) {P : PT} {N : Nat} {M : Mm} {a0 : Nat} {a1 : Int32} {a2 : Int32} {a3 : Int32} {r9 : Int32} (h : fX11_slid N M a0 a1 a2 a3 = some r9) : Ct l yX11_slid cX11_slid 4 (some .int) 4 0 P [.ref (pB P + a0), .int a1, .int a2, .int a3] M (some (.int r9)) M :=
  Ct.mk (by decide +kernel) (Nat.le_of_ble_eq_true rfl) (fun p e s m args below meth c hX => wX11_slid hX M a0 a1 a2 a3 h)
set_option maxHeartbeats 4000000 in
set_option maxRecDepth 100000 in
theorem wX11_plain {p : Program} {l : Launch} {e : Env} {s : State} {m : MethodId} {args : Array Value} {below : List Frame} {meth : Method} {c : Code} {P : PT} {N : Nat}  {r9 : Int32} (hX : Cy p s m args c meth cX11_plain 2 RX11 "plain" (some .int) P)  (M : Mm) (a0 : Nat) (a1 : Int32) (h : fX11_plain N M a0 a1 = some r9) : Wq p l e s m args below meth c 5 0 (some (.int r9)) M 2 P 0 0 [(0, .ref (pB P + a0)), (1, .int a1)] [] M := by
  unfold fX11_plain at h
  obtain ⟨_, _, h⟩ := ob h
  have hX0 := hX
  obtain ⟨X, hr, hlk, hnm⟩ := hX0
  have hx := X.1.1
  have hb := X.1.2.1
  intro H locs ls hM hl
  refine lv_aload_n (pc := 0) hx hb dX11_plain_0 rfl (lv_at hl 0 rfl) ?_
  refine lv_iload_n (pc := 1) hx hb dX11_plain_1 rfl (lv_at hl 1 rfl) ?_
  refine lv_aload_n (pc := 2) hx hb dX11_plain_2 rfl (lv_at hl 0 rfl) ?_
  refine lv_iload_n (pc := 3) hx hb dX11_plain_3 rfl (lv_at hl 1 rfl) ?_
  refine lv_iconst (pc := 4) (v := (2 : Int32)) hx hb dX11_plain_4 (by decide) ?_
  obtain ⟨v2, e1, h⟩ := ob h
  obtain ⟨fs3, hb4⟩ := (rX11_of e1)
  refine bz_callV1 (pc := 5) (As := [.int a1, .int (2 : Int32)]) (rest := [.int a1, .ref (pB P + a0)]) X hM hl.1 k_RX11_222 (ctX11_of l e1) rfl hb4 rfl rfl ⟨(Nat.le_of_ble_eq_true rfl), (Nat.le_of_ble_eq_true rfl)⟩ (Nat.le_of_ble_eq_true rfl) ⟨(Nat.le_of_ble_eq_true rfl), (Nat.le_of_ble_eq_true rfl)⟩ dX11_plain_5 (fun H locs hM => ?_)
  refine lv_iconst (pc := 8) (v := (0 : Int32)) hx hb dX11_plain_8 (by decide) ?_
  obtain ⟨v6, e5, h⟩ := ob h
  obtain ⟨fs7, hb8⟩ := (rX11_slid e5)
  refine bz_callV1 (pc := 9) (As := [.int a1, .int v2, .int (0 : Int32)]) (rest := []) X hM hl.1 k_RX11_228 (ctX11_slid l e5) rfl hb8 rfl rfl ⟨(Nat.le_of_ble_eq_true rfl), (Nat.le_of_ble_eq_true rfl)⟩ (Nat.le_of_ble_eq_true rfl) ⟨(Nat.le_of_ble_eq_true rfl), (Nat.le_of_ble_eq_true rfl)⟩ dX11_plain_9 (fun H locs hM => ?_)
  obtain rfl := so1 h
  exact bz_iret (pc := 12) X hM hr hlk dX11_plain_12 (Nat.le_of_ble_eq_true rfl) (Nat.le_of_ble_eq_true rfl)
theorem rX11_plain {N : Nat} {M : Mm} {a0 : Nat} {a1 : Int32} {r9 : Int32} (h : fX11_plain N M a0 a1 = some r9) : ∃ fs, M[a0]? = some (.inr (11, fs)) := by
  unfold fX11_plain at h
  obtain ⟨_, e1, _⟩ := ob h
  exact gC_spec e1
theorem ctX11_plain (l : Launch) {P : PT} {N : Nat} {M : Mm} {a0 : Nat} {a1 : Int32} {r9 : Int32} (h : fX11_plain N M a0 a1 = some r9) : Ct l yX11_plain cX11_plain 2 (some .int) 5 0 P [.ref (pB P + a0), .int a1] M (some (.int r9)) M :=
  Ct.mk (by decide +kernel) (Nat.le_of_ble_eq_true rfl) (fun p e s m args below meth c hX => wX11_plain hX M a0 a1 h)
set_option maxHeartbeats 4000000 in
set_option maxRecDepth 100000 in
theorem wBX11_warm_4 {p : Program} {l : Launch} {e : Env} {s : State} {m : MethodId} {args : Array Value} {below : List Frame} {meth : Method} {c : Code} {P : PT} {N : Nat} {K4 : Mm → Nat → Int32 → Int32 → Int32 → Option (Int32)}  {r9 : Int32} (hX : Cy p s m args c meth cX11_warm 4 RX11 "warm" (some .int) P)  (hK4 : ∀ (M : Mm) (x0 : Nat) (x1 : Int32) (x2 : Int32) (x3 : Int32), K4 M x0 x1 x2 x3 = some r9 → Wq p l e s m args below meth c 5 0 (some (.int r9)) M 4 P 0 4 [(0, .ref (pB P + x0)), (1, .int x1), (2, .int x2), (3, .int x3)] [] M) (M : Mm) (x0 : Nat) (x1 : Int32) (x2 : Int32) (x3 : Int32)  (h : BX11_warm_4 N K4 M x0 x1 x2 x3 = some r9) : Wq p l e s m args below meth c 5 0 (some (.int r9)) M 4 P 0 4 [(0, .ref (pB P + x0)), (1, .int x1), (2, .int x2), (3, .int x3)] [] M := by
  unfold BX11_warm_4 at h
  have hX0 := hX
  obtain ⟨X, hr, hlk, hnm⟩ := hX0
  have hx := X.1.1
  have hb := X.1.2.1
  intro H locs ls hM hl
  refine lv_iload_n (pc := 4) hx hb dX11_warm_4 rfl (lv_at hl 3 rfl) ?_
  refine lv_bipush (pc := 5) (v := (6 : Int32)) hx hb dX11_warm_5 (by decide) ?_
  refine lv_icmp_ge (pc := 7) (tgt := 38) hx hb dX11_warm_7 (by decide) (fun hc => ?_) (fun hc => ?_)
  · have h := if_t hc h
    refine lv_iload_n (pc := 38) hx hb dX11_warm_38 rfl (lv_at hl 2 rfl) ?_
    refine lv_iconst (pc := 39) (v := (5 : Int32)) hx hb dX11_warm_39 (by decide) ?_
    refine lv_idiv (pc := 40) hx hb dX11_warm_40 (by decide) ?_
    obtain rfl := so1 h
    exact bz_iret (pc := 41) X hM hr hlk dX11_warm_41 (Nat.le_of_ble_eq_true rfl) (Nat.le_of_ble_eq_true rfl)
  · have h := if_f hc h
    refine lv_iload_n (pc := 10) hx hb dX11_warm_10 rfl (lv_at hl 2 rfl) ?_
    refine lv_aload_n (pc := 11) hx hb dX11_warm_11 rfl (lv_at hl 0 rfl) ?_
    refine lv_iload_n (pc := 12) hx hb dX11_warm_12 rfl (lv_at hl 1 rfl) ?_
    refine lv_aload_n (pc := 13) hx hb dX11_warm_13 rfl (lv_at hl 0 rfl) ?_
    refine lv_iload_n (pc := 14) hx hb dX11_warm_14 rfl (lv_at hl 1 rfl) ?_
    refine lv_iconst (pc := 15) (v := (2 : Int32)) hx hb dX11_warm_15 (by decide) ?_
    obtain ⟨v2, e1, h⟩ := ob h
    obtain ⟨fs3, hb4⟩ := (rX11_of e1)
    refine bz_callV1 (pc := 16) (As := [.int x1, .int (2 : Int32)]) (rest := [.int x1, .ref (pB P + x0), .int x2]) X hM hl.1 k_RX11_222 (ctX11_of l e1) rfl hb4 rfl rfl ⟨(Nat.le_of_ble_eq_true rfl), (Nat.le_of_ble_eq_true rfl)⟩ (Nat.le_of_ble_eq_true rfl) ⟨(Nat.le_of_ble_eq_true rfl), (Nat.le_of_ble_eq_true rfl)⟩ dX11_warm_16 (fun H locs hM => ?_)
    refine lv_iload_n (pc := 19) hx hb dX11_warm_19 rfl (lv_at hl 3 rfl) ?_
    refine lv_aload_n (pc := 20) hx hb dX11_warm_20 rfl (lv_at hl 0 rfl) ?_
    refine lv_iload_n (pc := 21) hx hb dX11_warm_21 rfl (lv_at hl 1 rfl) ?_
    refine lv_iconst (pc := 22) (v := (4 : Int32)) hx hb dX11_warm_22 (by decide) ?_
    obtain ⟨v6, e5, h⟩ := ob h
    obtain ⟨fs7, hb8⟩ := (rX11_of e5)
    refine bz_callV1 (pc := 23) (As := [.int x1, .int (4 : Int32)]) (rest := [.int x3, .int v2, .int x1, .ref (pB P + x0), .int x2]) X hM hl.1 k_RX11_222 (ctX11_of l e5) rfl hb8 rfl rfl ⟨(Nat.le_of_ble_eq_true rfl), (Nat.le_of_ble_eq_true rfl)⟩ (Nat.le_of_ble_eq_true rfl) ⟨(Nat.le_of_ble_eq_true rfl), (Nat.le_of_ble_eq_true rfl)⟩ dX11_warm_23 (fun H locs hM => ?_)
    refine lv_imul (pc := 26) hx hb dX11_warm_26 ?_
    obtain ⟨v10, e9, h⟩ := ob h
    obtain ⟨fs11, hb12⟩ := (rX11_slid e9)
    refine bz_callV1 (pc := 27) (As := [.int x1, .int v2, .int (x3 * v6)]) (rest := [.int x2]) X hM hl.1 k_RX11_228 (ctX11_slid l e9) rfl hb12 rfl rfl ⟨(Nat.le_of_ble_eq_true rfl), (Nat.le_of_ble_eq_true rfl)⟩ (Nat.le_of_ble_eq_true rfl) ⟨(Nat.le_of_ble_eq_true rfl), (Nat.le_of_ble_eq_true rfl)⟩ dX11_warm_27 (fun H locs hM => ?_)
    refine lv_iadd (pc := 30) hx hb dX11_warm_30 ?_
    refine lv_istore_n (pc := 31) (lv' := [(2, .int (x2 + v10)), (0, .ref (pB P + x0)), (1, .int x1), (3, .int x3)]) hx hb dX11_warm_31 rfl hl (by decide) rfl (fun ls hl => ?_)
    refine lv_iinc (pc := 32) (v := (x3 + (1 : Int32))) (lv' := [(3, .int (x3 + (1 : Int32))), (2, .int (x2 + v10)), (0, .ref (pB P + x0)), (1, .int x1)]) hx hb dX11_warm_32 hl (k := 3) rfl rfl (by decide) rfl (fun ls hl => ?_)
    refine lv_goto (pc := 35) (tgt := 4) hx hb dX11_warm_35 (by decide) ?_
    exact hK4 _ _ _ _ _ h H locs ls hM (lv_sub hl [2, 3, 1, 0] rfl)
set_option maxHeartbeats 4000000 in
set_option maxRecDepth 100000 in
theorem wLX11_warm_4 {p : Program} {l : Launch} {e : Env} {s : State} {m : MethodId} {args : Array Value} {below : List Frame} {meth : Method} {c : Code} {P : PT} {N : Nat}  {r9 : Int32} (hX : Cy p s m args c meth cX11_warm 4 RX11 "warm" (some .int) P)   : ∀ (n : Nat) (M : Mm) (x0 : Nat) (x1 : Int32) (x2 : Int32) (x3 : Int32) , LX11_warm_4 N n M x0 x1 x2 x3 = some r9 → Wq p l e s m args below meth c 5 0 (some (.int r9)) M 4 P 0 4 [(0, .ref (pB P + x0)), (1, .int x1), (2, .int x2), (3, .int x3)] [] M := by
  intro n
  induction n with
  | zero => intro M x0 x1 x2 x3 h; cases h
  | succ n ih => intro M x0 x1 x2 x3 h; exact wBX11_warm_4 hX ih M x0 x1 x2 x3 h
set_option maxHeartbeats 4000000 in
set_option maxRecDepth 100000 in
theorem wX11_warm {p : Program} {l : Launch} {e : Env} {s : State} {m : MethodId} {args : Array Value} {below : List Frame} {meth : Method} {c : Code} {P : PT} {N : Nat}  {r9 : Int32} (hX : Cy p s m args c meth cX11_warm 4 RX11 "warm" (some .int) P)  (M : Mm) (a0 : Nat) (a1 : Int32) (h : fX11_warm N M a0 a1 = some r9) : Wq p l e s m args below meth c 5 0 (some (.int r9)) M 4 P 0 0 [(0, .ref (pB P + a0)), (1, .int a1)] [] M := by
  unfold fX11_warm at h
  obtain ⟨_, _, h⟩ := ob h
  have hX0 := hX
  obtain ⟨X, hr, hlk, hnm⟩ := hX0
  have hx := X.1.1
  have hb := X.1.2.1
  intro H locs ls hM hl
  refine lv_iconst (pc := 0) (v := (0 : Int32)) hx hb dX11_warm_0 (by decide) ?_
  refine lv_istore_n (pc := 1) (lv' := [(2, .int (0 : Int32)), (0, .ref (pB P + a0)), (1, .int a1)]) hx hb dX11_warm_1 rfl hl (by decide) rfl (fun ls hl => ?_)
  refine lv_iconst (pc := 2) (v := (1 : Int32)) hx hb dX11_warm_2 (by decide) ?_
  refine lv_istore_n (pc := 3) (lv' := [(3, .int (1 : Int32)), (2, .int (0 : Int32)), (0, .ref (pB P + a0)), (1, .int a1)]) hx hb dX11_warm_3 rfl hl (by decide) rfl (fun ls hl => ?_)
  exact wLX11_warm_4 hX _ _ _ _ _ _ h H locs ls hM (lv_sub hl [2, 3, 1, 0] rfl)
theorem rX11_warm {N : Nat} {M : Mm} {a0 : Nat} {a1 : Int32} {r9 : Int32} (h : fX11_warm N M a0 a1 = some r9) : ∃ fs, M[a0]? = some (.inr (11, fs)) := by
  unfold fX11_warm at h
  obtain ⟨_, e1, _⟩ := ob h
  exact gC_spec e1
theorem ctX11_warm (l : Launch) {P : PT} {N : Nat} {M : Mm} {a0 : Nat} {a1 : Int32} {r9 : Int32} (h : fX11_warm N M a0 a1 = some r9) : Ct l yX11_warm cX11_warm 4 (some .int) 5 0 P [.ref (pB P + a0), .int a1] M (some (.int r9)) M :=
  Ct.mk (by decide +kernel) (Nat.le_of_ble_eq_true rfl) (fun p e s m args below meth c hX => wX11_warm hX M a0 a1 h)
set_option maxHeartbeats 4000000 in
set_option maxRecDepth 100000 in
theorem wBX11_counted_5 {p : Program} {l : Launch} {e : Env} {s : State} {m : MethodId} {args : Array Value} {below : List Frame} {meth : Method} {c : Code} {P : PT} {N : Nat} {K5 : Mm → Nat → Int32 → Int32 → Int32 → Int32 → Option (Int32)}  {r9 : Int32} (hX : Cy p s m args c meth cX11_counted 5 RX11 "counted" (some .int) P)  (hK5 : ∀ (M : Mm) (x0 : Nat) (x1 : Int32) (x2 : Int32) (x3 : Int32) (x4 : Int32), K5 M x0 x1 x2 x3 x4 = some r9 → Wq p l e s m args below meth c 2 0 (some (.int r9)) M 5 P 0 5 [(0, .ref (pB P + x0)), (1, .int x1), (2, .int x2), (3, .int x3), (4, .int x4)] [] M) (M : Mm) (x0 : Nat) (x1 : Int32) (x2 : Int32) (x3 : Int32) (x4 : Int32)  (h : BX11_counted_5 N K5 M x0 x1 x2 x3 x4 = some r9) : Wq p l e s m args below meth c 2 0 (some (.int r9)) M 5 P 0 5 [(0, .ref (pB P + x0)), (1, .int x1), (2, .int x2), (3, .int x3), (4, .int x4)] [] M := by
  unfold BX11_counted_5 at h
  have hX0 := hX
  obtain ⟨X, hr, hlk, hnm⟩ := hX0
  have hx := X.1.1
  have hb := X.1.2.1
  intro H locs ls hM hl
  refine lv_iload (pc := 5) hx hb dX11_counted_5 (lv_at hl 4 rfl) ?_
  refine lv_aload_n (pc := 7) hx hb dX11_counted_7 rfl (lv_at hl 0 rfl) ?_
  obtain ⟨q1, e2, h⟩ := ob h
  refine bz_getQ (pc := 8) X hM fl_RX11_9 e2 dX11_counted_8 ?_
  refine lv_iconst (pc := 11) (v := (1 : Int32)) hx hb dX11_counted_11 (by decide) ?_
  obtain ⟨v3, e4, h⟩ := ob h
  refine bz_iald (pc := 12) X hM e4 dX11_counted_12 ?_
  refine lv_icmp_ge (pc := 13) (tgt := 41) hx hb dX11_counted_13 (by decide) (fun hc => ?_) (fun hc => ?_)
  · have h := if_t hc h
    refine lv_iload_n (pc := 41) hx hb dX11_counted_41 rfl (lv_at hl 3 rfl) ?_
    obtain rfl := so1 h
    exact bz_iret (pc := 42) X hM hr hlk dX11_counted_42 (Nat.le_of_ble_eq_true rfl) (Nat.le_of_ble_eq_true rfl)
  · have h := if_f hc h
    refine lv_iload_n (pc := 16) hx hb dX11_counted_16 rfl (lv_at hl 3 rfl) ?_
    refine lv_aload_n (pc := 17) hx hb dX11_counted_17 rfl (lv_at hl 0 rfl) ?_
    refine lv_iload (pc := 18) hx hb dX11_counted_18 (lv_at hl 4 rfl) ?_
    refine lv_iload_n (pc := 20) hx hb dX11_counted_20 rfl (lv_at hl 1 rfl) ?_
    refine lv_iload_n (pc := 21) hx hb dX11_counted_21 rfl (lv_at hl 2 rfl) ?_
    obtain ⟨v6, e5, h⟩ := ob h
    obtain ⟨fs7, hb8⟩ := (rX11_isCounted e5)
    refine bz_callV1 (pc := 22) (As := [.int x4, .int x1, .int x2]) (rest := [.int x3]) X hM hl.1 k_RX11_123 (ctX11_isCounted l e5) rfl hb8 rfl rfl ⟨(Nat.le_of_ble_eq_true rfl), (Nat.le_of_ble_eq_true rfl)⟩ (Nat.le_of_ble_eq_true rfl) ⟨(Nat.le_of_ble_eq_true rfl), (Nat.le_of_ble_eq_true rfl)⟩ dX11_counted_22 (fun H locs hM => ?_)
    refine lv_if_eq (pc := 25) (tgt := 32) hx hb dX11_counted_25 (by decide) (fun hc => ?_) (fun hc => ?_)
    · have h := if_t hc h
      refine lv_iconst (pc := 32) (v := (0 : Int32)) hx hb dX11_counted_32 (by decide) ?_
      refine lv_iadd (pc := 33) hx hb dX11_counted_33 ?_
      refine lv_istore_n (pc := 34) (lv' := [(3, .int (x3 + (0 : Int32))), (0, .ref (pB P + x0)), (1, .int x1), (2, .int x2), (4, .int x4)]) hx hb dX11_counted_34 rfl hl (by decide) rfl (fun ls hl => ?_)
      refine lv_iinc (pc := 35) (v := (x4 + (1 : Int32))) (lv' := [(4, .int (x4 + (1 : Int32))), (3, .int (x3 + (0 : Int32))), (0, .ref (pB P + x0)), (1, .int x1), (2, .int x2)]) hx hb dX11_counted_35 hl (k := 4) rfl rfl (by decide) rfl (fun ls hl => ?_)
      refine lv_goto (pc := 38) (tgt := 5) hx hb dX11_counted_38 (by decide) ?_
      exact hK5 _ _ _ _ _ _ h H locs ls hM (lv_sub hl [2, 3, 4, 1, 0] rfl)
    · have h := if_f hc h
      refine lv_iconst (pc := 28) (v := (1 : Int32)) hx hb dX11_counted_28 (by decide) ?_
      refine lv_goto (pc := 29) (tgt := 33) hx hb dX11_counted_29 (by decide) ?_
      refine lv_iadd (pc := 33) hx hb dX11_counted_33 ?_
      refine lv_istore_n (pc := 34) (lv' := [(3, .int (x3 + (1 : Int32))), (0, .ref (pB P + x0)), (1, .int x1), (2, .int x2), (4, .int x4)]) hx hb dX11_counted_34 rfl hl (by decide) rfl (fun ls hl => ?_)
      refine lv_iinc (pc := 35) (v := (x4 + (1 : Int32))) (lv' := [(4, .int (x4 + (1 : Int32))), (3, .int (x3 + (1 : Int32))), (0, .ref (pB P + x0)), (1, .int x1), (2, .int x2)]) hx hb dX11_counted_35 hl (k := 4) rfl rfl (by decide) rfl (fun ls hl => ?_)
      refine lv_goto (pc := 38) (tgt := 5) hx hb dX11_counted_38 (by decide) ?_
      exact hK5 _ _ _ _ _ _ h H locs ls hM (lv_sub hl [2, 3, 4, 1, 0] rfl)
set_option maxHeartbeats 4000000 in
set_option maxRecDepth 100000 in
theorem wLX11_counted_5 {p : Program} {l : Launch} {e : Env} {s : State} {m : MethodId} {args : Array Value} {below : List Frame} {meth : Method} {c : Code} {P : PT} {N : Nat}  {r9 : Int32} (hX : Cy p s m args c meth cX11_counted 5 RX11 "counted" (some .int) P)   : ∀ (n : Nat) (M : Mm) (x0 : Nat) (x1 : Int32) (x2 : Int32) (x3 : Int32) (x4 : Int32) , LX11_counted_5 N n M x0 x1 x2 x3 x4 = some r9 → Wq p l e s m args below meth c 2 0 (some (.int r9)) M 5 P 0 5 [(0, .ref (pB P + x0)), (1, .int x1), (2, .int x2), (3, .int x3), (4, .int x4)] [] M := by
  intro n
  induction n with
  | zero => intro M x0 x1 x2 x3 x4 h; cases h
  | succ n ih => intro M x0 x1 x2 x3 x4 h; exact wBX11_counted_5 hX ih M x0 x1 x2 x3 x4 h
set_option maxHeartbeats 4000000 in
set_option maxRecDepth 100000 in
theorem wX11_counted {p : Program} {l : Launch} {e : Env} {s : State} {m : MethodId} {args : Array Value} {below : List Frame} {meth : Method} {c : Code} {P : PT} {N : Nat}  {r9 : Int32} (hX : Cy p s m args c meth cX11_counted 5 RX11 "counted" (some .int) P)  (M : Mm) (a0 : Nat) (a1 : Int32) (a2 : Int32) (h : fX11_counted N M a0 a1 a2 = some r9) : Wq p l e s m args below meth c 2 0 (some (.int r9)) M 5 P 0 0 [(0, .ref (pB P + a0)), (1, .int a1), (2, .int a2)] [] M := by
  unfold fX11_counted at h
  obtain ⟨_, _, h⟩ := ob h
  have hX0 := hX
  obtain ⟨X, hr, hlk, hnm⟩ := hX0
  have hx := X.1.1
  have hb := X.1.2.1
  intro H locs ls hM hl
  refine lv_iconst (pc := 0) (v := (0 : Int32)) hx hb dX11_counted_0 (by decide) ?_
  refine lv_istore_n (pc := 1) (lv' := [(3, .int (0 : Int32)), (0, .ref (pB P + a0)), (1, .int a1), (2, .int a2)]) hx hb dX11_counted_1 rfl hl (by decide) rfl (fun ls hl => ?_)
  refine lv_iconst (pc := 2) (v := (0 : Int32)) hx hb dX11_counted_2 (by decide) ?_
  refine lv_istore (pc := 3) (lv' := [(4, .int (0 : Int32)), (3, .int (0 : Int32)), (0, .ref (pB P + a0)), (1, .int a1), (2, .int a2)]) hx hb dX11_counted_3 hl (by decide) rfl (fun ls hl => ?_)
  exact wLX11_counted_5 hX _ _ _ _ _ _ _ h H locs ls hM (lv_sub hl [2, 3, 4, 1, 0] rfl)
theorem rX11_counted {N : Nat} {M : Mm} {a0 : Nat} {a1 : Int32} {a2 : Int32} {r9 : Int32} (h : fX11_counted N M a0 a1 a2 = some r9) : ∃ fs, M[a0]? = some (.inr (11, fs)) := by
  unfold fX11_counted at h
  obtain ⟨_, e1, _⟩ := ob h
  exact gC_spec e1
theorem ctX11_counted (l : Launch) {P : PT} {N : Nat} {M : Mm} {a0 : Nat} {a1 : Int32} {a2 : Int32} {r9 : Int32} (h : fX11_counted N M a0 a1 a2 = some r9) : Ct l yX11_counted cX11_counted 5 (some .int) 2 0 P [.ref (pB P + a0), .int a1, .int a2] M (some (.int r9)) M :=
  Ct.mk (by decide +kernel) (Nat.le_of_ble_eq_true rfl) (fun p e s m args below meth c hX => wX11_counted hX M a0 a1 a2 h)
set_option maxHeartbeats 4000000 in
set_option maxRecDepth 100000 in
theorem wBX11_lined_41 {p : Program} {l : Launch} {e : Env} {s : State} {m : MethodId} {args : Array Value} {below : List Frame} {meth : Method} {c : Code} {P : PT} {N : Nat} {K41 : Mm → Nat → Int32 → Int32 → Int32 → Option (Int32)}  {r9 : Int32} (hX : Cy p s m args c meth cX11_lined 5 RX11 "lined" (some .int) P)  (hK41 : ∀ (M : Mm) (x0 : Nat) (x1 : Int32) (x2 : Int32) (x3 : Int32), K41 M x0 x1 x2 x3 = some r9 → Wq p l e s m args below meth c 5 0 (some (.int r9)) M 5 P 0 41 [(0, .ref (pB P + x0)), (1, .int x1), (2, .int x2), (3, .int x3)] [] M) (M : Mm) (x0 : Nat) (x1 : Int32) (x2 : Int32) (x3 : Int32)  (h : BX11_lined_41 N K41 M x0 x1 x2 x3 = some r9) : Wq p l e s m args below meth c 5 0 (some (.int r9)) M 5 P 0 41 [(0, .ref (pB P + x0)), (1, .int x1), (2, .int x2), (3, .int x3)] [] M := by
  unfold BX11_lined_41 at h
  have hX0 := hX
  obtain ⟨X, hr, hlk, hnm⟩ := hX0
  have hx := X.1.1
  have hb := X.1.2.1
  intro H locs ls hM hl
  refine lv_iload_n (pc := 41) hx hb dX11_lined_41 rfl (lv_at hl 3 rfl) ?_
  refine lv_sipush (pc := 42) (v := (1000 : Int32)) hx hb dX11_lined_42 (by decide) ?_
  refine lv_icmp_ge (pc := 45) (tgt := 89) hx hb dX11_lined_45 (by decide) (fun hc => ?_) (fun hc => ?_)
  · have h := if_t hc h
    refine lv_iload_n (pc := 89) hx hb dX11_lined_89 rfl (lv_at hl 2 rfl) ?_
    obtain rfl := so1 h
    exact bz_iret (pc := 90) X hM hr hlk dX11_lined_90 (Nat.le_of_ble_eq_true rfl) (Nat.le_of_ble_eq_true rfl)
  · have h := if_f hc h
    refine lv_aload_n (pc := 48) hx hb dX11_lined_48 rfl (lv_at hl 0 rfl) ?_
    refine lv_iload_n (pc := 49) hx hb dX11_lined_49 rfl (lv_at hl 1 rfl) ?_
    refine lv_iload_n (pc := 50) hx hb dX11_lined_50 rfl (lv_at hl 3 rfl) ?_
    refine lv_iconst (pc := 51) (v := (0 : Int32)) hx hb dX11_lined_51 (by decide) ?_
    obtain ⟨v2, e1, h⟩ := ob h
    obtain ⟨fs3, hb4⟩ := (rX11_slid e1)
    refine bz_callV1 (pc := 52) (As := [.int x1, .int x3, .int (0 : Int32)]) (rest := []) X hM hl.1 k_RX11_228 (ctX11_slid l e1) rfl hb4 rfl rfl ⟨(Nat.le_of_ble_eq_true rfl), (Nat.le_of_ble_eq_true rfl)⟩ (Nat.le_of_ble_eq_true rfl) ⟨(Nat.le_of_ble_eq_true rfl), (Nat.le_of_ble_eq_true rfl)⟩ dX11_lined_52 (fun H locs hM => ?_)
    refine lv_aload_n (pc := 55) hx hb dX11_lined_55 rfl (lv_at hl 0 rfl) ?_
    refine lv_iload_n (pc := 56) hx hb dX11_lined_56 rfl (lv_at hl 1 rfl) ?_
    refine lv_iload_n (pc := 57) hx hb dX11_lined_57 rfl (lv_at hl 3 rfl) ?_
    refine lv_aload_n (pc := 58) hx hb dX11_lined_58 rfl (lv_at hl 0 rfl) ?_
    refine lv_iload_n (pc := 59) hx hb dX11_lined_59 rfl (lv_at hl 1 rfl) ?_
    refine lv_iconst (pc := 60) (v := (4 : Int32)) hx hb dX11_lined_60 (by decide) ?_
    obtain ⟨v6, e5, h⟩ := ob h
    obtain ⟨fs7, hb8⟩ := (rX11_of e5)
    refine bz_callV1 (pc := 61) (As := [.int x1, .int (4 : Int32)]) (rest := [.int x3, .int x1, .ref (pB P + x0), .int v2]) X hM hl.1 k_RX11_222 (ctX11_of l e5) rfl hb8 rfl rfl ⟨(Nat.le_of_ble_eq_true rfl), (Nat.le_of_ble_eq_true rfl)⟩ (Nat.le_of_ble_eq_true rfl) ⟨(Nat.le_of_ble_eq_true rfl), (Nat.le_of_ble_eq_true rfl)⟩ dX11_lined_61 (fun H locs hM => ?_)
    obtain ⟨v10, e9, h⟩ := ob h
    obtain ⟨fs11, hb12⟩ := (rX11_slid e9)
    refine bz_callV1 (pc := 64) (As := [.int x1, .int x3, .int v6]) (rest := [.int v2]) X hM hl.1 k_RX11_228 (ctX11_slid l e9) rfl hb12 rfl rfl ⟨(Nat.le_of_ble_eq_true rfl), (Nat.le_of_ble_eq_true rfl)⟩ (Nat.le_of_ble_eq_true rfl) ⟨(Nat.le_of_ble_eq_true rfl), (Nat.le_of_ble_eq_true rfl)⟩ dX11_lined_64 (fun H locs hM => ?_)
    refine lv_isub (pc := 67) hx hb dX11_lined_67 ?_
    refine lv_istore (pc := 68) (lv' := [(4, .int (v2 - v10)), (0, .ref (pB P + x0)), (1, .int x1), (2, .int x2), (3, .int x3)]) hx hb dX11_lined_68 hl (by decide) rfl (fun ls hl => ?_)
    refine lv_iload (pc := 70) hx hb dX11_lined_70 (lv_at hl 0 rfl) ?_
    refine lv_iload_n (pc := 72) hx hb dX11_lined_72 rfl (lv_at hl 3 rfl) ?_
    refine lv_icmp_le (pc := 73) (tgt := 81) hx hb dX11_lined_73 (by decide) (fun hc => ?_) (fun hc => ?_)
    · have h := if_t hc h
      refine lv_iload_n (pc := 81) hx hb dX11_lined_81 rfl (lv_at hl 3 rfl) ?_
      refine lv_istore_n (pc := 82) (lv' := [(2, .int x2), (4, .int (v2 - v10)), (0, .ref (pB P + x0)), (1, .int x1), (3, .int x3)]) hx hb dX11_lined_82 rfl hl (by decide) rfl (fun ls hl => ?_)
      refine lv_iinc (pc := 83) (v := (x3 + (50 : Int32))) (lv' := [(3, .int (x3 + (50 : Int32))), (2, .int x2), (4, .int (v2 - v10)), (0, .ref (pB P + x0)), (1, .int x1)]) hx hb dX11_lined_83 hl (k := 4) rfl rfl (by decide) rfl (fun ls hl => ?_)
      refine lv_goto (pc := 86) (tgt := 41) hx hb dX11_lined_86 (by decide) ?_
      exact hK41 _ _ _ _ _ h H locs ls hM (lv_sub hl [3, 4, 1, 0] rfl)
    · have h := if_f hc h
      refine lv_iload (pc := 76) hx hb dX11_lined_76 (lv_at hl 0 rfl) ?_
      refine lv_goto (pc := 78) (tgt := 82) hx hb dX11_lined_78 (by decide) ?_
      refine lv_istore_n (pc := 82) (lv' := [(2, .int (v2 - v10)), (4, .int (v2 - v10)), (0, .ref (pB P + x0)), (1, .int x1), (3, .int x3)]) hx hb dX11_lined_82 rfl hl (by decide) rfl (fun ls hl => ?_)
      refine lv_iinc (pc := 83) (v := (x3 + (50 : Int32))) (lv' := [(3, .int (x3 + (50 : Int32))), (2, .int (v2 - v10)), (4, .int (v2 - v10)), (0, .ref (pB P + x0)), (1, .int x1)]) hx hb dX11_lined_83 hl (k := 4) rfl rfl (by decide) rfl (fun ls hl => ?_)
      refine lv_goto (pc := 86) (tgt := 41) hx hb dX11_lined_86 (by decide) ?_
      exact hK41 _ _ _ _ _ h H locs ls hM (lv_sub hl [3, 4, 1, 0] rfl)
set_option maxHeartbeats 4000000 in
set_option maxRecDepth 100000 in
theorem wLX11_lined_41 {p : Program} {l : Launch} {e : Env} {s : State} {m : MethodId} {args : Array Value} {below : List Frame} {meth : Method} {c : Code} {P : PT} {N : Nat}  {r9 : Int32} (hX : Cy p s m args c meth cX11_lined 5 RX11 "lined" (some .int) P)   : ∀ (n : Nat) (M : Mm) (x0 : Nat) (x1 : Int32) (x2 : Int32) (x3 : Int32) , LX11_lined_41 N n M x0 x1 x2 x3 = some r9 → Wq p l e s m args below meth c 5 0 (some (.int r9)) M 5 P 0 41 [(0, .ref (pB P + x0)), (1, .int x1), (2, .int x2), (3, .int x3)] [] M := by
  intro n
  induction n with
  | zero => intro M x0 x1 x2 x3 h; cases h
  | succ n ih => intro M x0 x1 x2 x3 h; exact wBX11_lined_41 hX ih M x0 x1 x2 x3 h
set_option maxHeartbeats 4000000 in
set_option maxRecDepth 100000 in
theorem wX11_lined {p : Program} {l : Launch} {e : Env} {s : State} {m : MethodId} {args : Array Value} {below : List Frame} {meth : Method} {c : Code} {P : PT} {N : Nat}  {r9 : Int32} (hX : Cy p s m args c meth cX11_lined 5 RX11 "lined" (some .int) P)  (M : Mm) (a0 : Nat) (a1 : Int32) (h : fX11_lined N M a0 a1 = some r9) : Wq p l e s m args below meth c 5 0 (some (.int r9)) M 5 P 0 0 [(0, .ref (pB P + a0)), (1, .int a1)] [] M := by
  unfold fX11_lined at h
  obtain ⟨_, _, h⟩ := ob h
  have hX0 := hX
  obtain ⟨X, hr, hlk, hnm⟩ := hX0
  have hx := X.1.1
  have hb := X.1.2.1
  intro H locs ls hM hl
  refine lv_aload_n (pc := 0) hx hb dX11_lined_0 rfl (lv_at hl 0 rfl) ?_
  refine lv_iload_n (pc := 1) hx hb dX11_lined_1 rfl (lv_at hl 1 rfl) ?_
  refine lv_aload_n (pc := 2) hx hb dX11_lined_2 rfl (lv_at hl 0 rfl) ?_
  refine lv_iload_n (pc := 3) hx hb dX11_lined_3 rfl (lv_at hl 1 rfl) ?_
  refine lv_iconst (pc := 4) (v := (2 : Int32)) hx hb dX11_lined_4 (by decide) ?_
  obtain ⟨v2, e1, h⟩ := ob h
  obtain ⟨fs3, hb4⟩ := (rX11_of e1)
  refine bz_callV1 (pc := 5) (As := [.int a1, .int (2 : Int32)]) (rest := [.int a1, .ref (pB P + a0)]) X hM hl.1 k_RX11_222 (ctX11_of l e1) rfl hb4 rfl rfl ⟨(Nat.le_of_ble_eq_true rfl), (Nat.le_of_ble_eq_true rfl)⟩ (Nat.le_of_ble_eq_true rfl) ⟨(Nat.le_of_ble_eq_true rfl), (Nat.le_of_ble_eq_true rfl)⟩ dX11_lined_5 (fun H locs hM => ?_)
  refine lv_iconst (pc := 8) (v := (0 : Int32)) hx hb dX11_lined_8 (by decide) ?_
  obtain ⟨v6, e5, h⟩ := ob h
  obtain ⟨fs7, hb8⟩ := (rX11_slid e5)
  refine bz_callV1 (pc := 9) (As := [.int a1, .int v2, .int (0 : Int32)]) (rest := []) X hM hl.1 k_RX11_228 (ctX11_slid l e5) rfl hb8 rfl rfl ⟨(Nat.le_of_ble_eq_true rfl), (Nat.le_of_ble_eq_true rfl)⟩ (Nat.le_of_ble_eq_true rfl) ⟨(Nat.le_of_ble_eq_true rfl), (Nat.le_of_ble_eq_true rfl)⟩ dX11_lined_9 (fun H locs hM => ?_)
  refine lv_aload_n (pc := 12) hx hb dX11_lined_12 rfl (lv_at hl 0 rfl) ?_
  refine lv_iload_n (pc := 13) hx hb dX11_lined_13 rfl (lv_at hl 1 rfl) ?_
  refine lv_aload_n (pc := 14) hx hb dX11_lined_14 rfl (lv_at hl 0 rfl) ?_
  refine lv_iload_n (pc := 15) hx hb dX11_lined_15 rfl (lv_at hl 1 rfl) ?_
  refine lv_iconst (pc := 16) (v := (2 : Int32)) hx hb dX11_lined_16 (by decide) ?_
  obtain ⟨v10, e9, h⟩ := ob h
  obtain ⟨fs11, hb12⟩ := (rX11_of e9)
  refine bz_callV1 (pc := 17) (As := [.int a1, .int (2 : Int32)]) (rest := [.int a1, .ref (pB P + a0), .int v6]) X hM hl.1 k_RX11_222 (ctX11_of l e9) rfl hb12 rfl rfl ⟨(Nat.le_of_ble_eq_true rfl), (Nat.le_of_ble_eq_true rfl)⟩ (Nat.le_of_ble_eq_true rfl) ⟨(Nat.le_of_ble_eq_true rfl), (Nat.le_of_ble_eq_true rfl)⟩ dX11_lined_17 (fun H locs hM => ?_)
  refine lv_aload_n (pc := 20) hx hb dX11_lined_20 rfl (lv_at hl 0 rfl) ?_
  refine lv_iload_n (pc := 21) hx hb dX11_lined_21 rfl (lv_at hl 1 rfl) ?_
  refine lv_iconst (pc := 22) (v := (4 : Int32)) hx hb dX11_lined_22 (by decide) ?_
  obtain ⟨v14, e13, h⟩ := ob h
  obtain ⟨fs15, hb16⟩ := (rX11_of e13)
  refine bz_callV1 (pc := 23) (As := [.int a1, .int (4 : Int32)]) (rest := [.int v10, .int a1, .ref (pB P + a0), .int v6]) X hM hl.1 k_RX11_222 (ctX11_of l e13) rfl hb16 rfl rfl ⟨(Nat.le_of_ble_eq_true rfl), (Nat.le_of_ble_eq_true rfl)⟩ (Nat.le_of_ble_eq_true rfl) ⟨(Nat.le_of_ble_eq_true rfl), (Nat.le_of_ble_eq_true rfl)⟩ dX11_lined_23 (fun H locs hM => ?_)
  obtain ⟨v18, e17, h⟩ := ob h
  obtain ⟨fs19, hb20⟩ := (rX11_slid e17)
  refine bz_callV1 (pc := 26) (As := [.int a1, .int v10, .int v14]) (rest := [.int v6]) X hM hl.1 k_RX11_228 (ctX11_slid l e17) rfl hb20 rfl rfl ⟨(Nat.le_of_ble_eq_true rfl), (Nat.le_of_ble_eq_true rfl)⟩ (Nat.le_of_ble_eq_true rfl) ⟨(Nat.le_of_ble_eq_true rfl), (Nat.le_of_ble_eq_true rfl)⟩ dX11_lined_26 (fun H locs hM => ?_)
  refine lv_isub (pc := 29) hx hb dX11_lined_29 ?_
  refine lv_istore_n (pc := 30) (lv' := [(2, .int (v6 - v18)), (0, .ref (pB P + a0)), (1, .int a1)]) hx hb dX11_lined_30 rfl hl (by decide) rfl (fun ls hl => ?_)
  refine lv_aload_n (pc := 31) hx hb dX11_lined_31 rfl (lv_at hl 1 rfl) ?_
  refine lv_iload_n (pc := 32) hx hb dX11_lined_32 rfl (lv_at hl 2 rfl) ?_
  refine lv_iconst (pc := 33) (v := (2 : Int32)) hx hb dX11_lined_33 (by decide) ?_
  obtain ⟨v22, e21, h⟩ := ob h
  obtain ⟨fs23, hb24⟩ := (rX11_of e21)
  refine bz_callV1 (pc := 34) (As := [.int a1, .int (2 : Int32)]) (rest := []) X hM hl.1 k_RX11_222 (ctX11_of l e21) rfl hb24 rfl rfl ⟨(Nat.le_of_ble_eq_true rfl), (Nat.le_of_ble_eq_true rfl)⟩ (Nat.le_of_ble_eq_true rfl) ⟨(Nat.le_of_ble_eq_true rfl), (Nat.le_of_ble_eq_true rfl)⟩ dX11_lined_34 (fun H locs hM => ?_)
  refine lv_bipush (pc := 37) (v := (50 : Int32)) hx hb dX11_lined_37 (by decide) ?_
  refine lv_iadd (pc := 39) hx hb dX11_lined_39 ?_
  refine lv_istore_n (pc := 40) (lv' := [(3, .int (v22 + (50 : Int32))), (2, .int (v6 - v18)), (0, .ref (pB P + a0)), (1, .int a1)]) hx hb dX11_lined_40 rfl hl (by decide) rfl (fun ls hl => ?_)
  exact wLX11_lined_41 hX _ _ _ _ _ _ h H locs ls hM (lv_sub hl [2, 3, 1, 0] rfl)
theorem rX11_lined {N : Nat} {M : Mm} {a0 : Nat} {a1 : Int32} {r9 : Int32} (h : fX11_lined N M a0 a1 = some r9) : ∃ fs, M[a0]? = some (.inr (11, fs)) := by
  unfold fX11_lined at h
  obtain ⟨_, e1, _⟩ := ob h
  exact gC_spec e1
theorem ctX11_lined (l : Launch) {P : PT} {N : Nat} {M : Mm} {a0 : Nat} {a1 : Int32} {r9 : Int32} (h : fX11_lined N M a0 a1 = some r9) : Ct l yX11_lined cX11_lined 5 (some .int) 5 0 P [.ref (pB P + a0), .int a1] M (some (.int r9)) M :=
  Ct.mk (by decide +kernel) (Nat.le_of_ble_eq_true rfl) (fun p e s m args below meth c hX => wX11_lined hX M a0 a1 h)
